import java.util.Arrays;

/** Edges of a WALK, of what is tuned, THE SEARCH, WEIGHED, CHANCE: promises 34 to 43. */
public final class AskEdgeTest extends Bench {
    private static final int BEYOND = Integer.MAX_VALUE;
    private static final int BELOW = Integer.MIN_VALUE;
    private static final String FULL = "works cyclic 12 twist 0;" + "arc 0 0 by 1;".repeat(12);
    private static final String RING = "works cyclic 12 twist 0;places 5;arc 0 1 by 0;arc 1 2 by 0;arc 2 3 by 0;arc 3 4 by 0;arc 4 0 by 1;";

    public static void main(String[] args) {
        walkLengths();
        walkNumbers();
        lifted();
        tune();
        tuned();
        searchBounds();
        searchEdges();
        found();
        weighedLengths();
        weighedNumbers();
        twists();
        weigh();
        chanceBounds();
        lots();
        mean();
        end();
    }

    private static void walkLengths() {
        says("A WALK in a TRAY (1 to 12 numbers); promise 34: -4: not 1 to 12 numbers");
        on(FULL);
        for (int n = 0; n <= 40; n++) {
            x.numbers(0, 0, n);
            due(n + " numbers", x.walk(0), n >= 1 && n <= 12 ? n % 12 : -4);
            due(n + " numbers lifted", x.lifted(0), n >= 1 && n <= 12 ? n * new int[] {1, 12, 6, 4, 3, 12, 2, 12, 3, 4, 6, 12}[n % 12] : -4);
        }
        says("Promise 34: -4 goes ahead of -3");
        on(FULL);
        long[] bad = new long[13];
        Arrays.fill(bad, -1);
        tray(0, 0, bad);
        due(x.walk(0), -4);
        due(x.lifted(0), -4);
    }

    private static void walkNumbers() {
        says("Promise 34: -3: one is no arc");
        on(FULL);
        long[] none = {-1, -2, 24, 25, 1L << 32, (1L << 32) + 2, -(1L << 32), Long.MIN_VALUE, Long.MAX_VALUE, Integer.MIN_VALUE, Integer.MAX_VALUE};
        for (int i = 0; i < 3; i++) {
            for (long v : none) {
                long[] walk = {0, 1, 2};
                walk[i] = v;
                tray(0, 3, walk);
                due("number " + i + " is " + v, x.walk(0), -3);
                due(x.lifted(0), -3);
            }
        }
        for (int v = 0; v < 24; v++) {
            tray(0, 0, v);
            due("the WALK " + v, x.walk(0), v % 2 == 0 ? 1 : 11);
        }
        x = new CageLift();
        x.numbers(0, 0, 1);
        due("there are no arcs", x.walk(0), -3);
        says("each begins where the one ahead ends; promise 34: -3: one begins elsewhere");
        on("works mirrors 3 twist 0;places 3;arc 0 1 by 1;arc 1 2 by 3;half 2 by 4;arc 2 0 by 2;");
        for (int a = 0; a < 8; a++) {
            for (int b = 0; b < 8; b++) {
                tray(0, 1, a, b);
                int[] from = {0, 1, 1, 2, 2, 2, 2, 0};
                int[] to = {1, 0, 2, 1, 2, 2, 0, 2};
                int[] by = {1, 2, 3, 3, 4, 4, 2, 1};
                due("the WALK " + a + ", " + b, x.walk(0), to[a] == from[b] ? x.product(by[a], by[b]) : -3);
            }
        }
        tray(0, 1, 0, 2, 4, 6, 6);
        due("the last one begins elsewhere", x.walk(0), -3);
        says("a half: at its PLACE either way");
        on("works mirrors 3 twist 0;places 3;arc 0 1 by 1;arc 1 2 by 3;half 2 by 4;arc 2 0 by 2;");
        tray(0, 1, 2, 4, 5, 4, 3);
        due("mirror 0, mirror 1 three times, mirror 0", x.walk(0), x.product(3, x.product(4, 3)));
        says("Whether arcs are CUT or LINKS kept isn't asked");
        on("works cyclic 5 twist 0;arc 0 0 by 2;keeps : 1 = 2;");
        x.cut(0);
        tray(0, 1, 0, 0, 1);
        due(x.walk(0), 2);
        due(x.lifted(0), 15);
        x.turn(0, 0);
        due("the VOLTAGE now", x.walk(0), 0);
        due(x.lifted(0), 3);
    }

    private static void lifted() {
        says("Promise 35: NONE: it doesn't end where it begins; as walk()");
        on("works cyclic 12 twist 0;places 2;arc 0 1 by 1;arc 1 0 by 0;half 1 by 6;");
        tray(0, 1, 0);
        due(x.walk(0), 1);
        due(x.lifted(0), -1);
        tray(0, 1, 0, 4);
        due(x.lifted(0), -1);
        tray(0, 1, 0, 2);
        due(x.lifted(0), 24);
        tray(0, 1, 0, 1);
        due("of ORDER 1", x.lifted(0), 2);
        tray(0, 1, 4);
        due(x.lifted(0), 2);
        tray(0, 1, 0, 2, 0, 2, 0, 2, 0, 2, 0, 2, 0, 2, 0);
        due("thirteen", x.lifted(0), -4);
        tray(0, 1, 0, 2, 0, 2, 0, 2, 0, 2, 0, 2, 0, 1);
        due("twelve times the ORDER of 5", x.lifted(0), 144);
        tray(0, 1, 0, 2, 0, 2, 0, 2, 0, 2, 0, 2);
        due("ten times the ORDER of 5", x.lifted(0), 120);
        tray(0, 1, 0, 2, 0, 2, 0, 2, 0, 2, 0, 2, 0, 2);
        due("twelve times the ORDER of 6", x.lifted(0), 24);
        tray(0, 1, 0, 0);
        due("-3 ahead of NONE", x.lifted(0), -3);
    }

    private static void tune() {
        says("Promise 36: -2");
        due(x.tune(0), -2);
        on(FULL);
        for (int a : new int[] {-1, 12, 13, BELOW, BEYOND}) due("tune(" + a + ")", x.tune(a), -2);
        due("the last arc", x.tune(11), 1);
        says("Promise 36: by which the GIRTH is greatest, the first");
        on("works cyclic 12 twist 0;arc 0 0 by 0;");
        due("1, 5, 7, 11 bring twelve", x.tune(0), 1);
        on("works cyclic 1 twist 0;arc 0 0 by 0;");
        due("a group of one", x.tune(0), 0);
        on("works cyclic 12 twist 0;arc 0 0 by 5;arc 0 0 by 0;");
        due("whatever it is, a LINK to itself", x.tune(0), 0);
        due("as by turning and asking", x.tune(1), girths(5));
        on("works mirrors 3 twist 0;arc 0 0 by 1;arc 0 0 by 5;");
        due("a mirror brings two", x.tune(0), 1);
        says("Promise 36: no RING: greater than any");
        on("works cyclic 5 twist 0;places 2;arc 0 1 by 3;");
        due(x.tune(0), 0);
        on("works cyclic 4 twist 0;places 2;arc 0 0 by 1;arc 0 1 by 2;keeps : arc = 1 or member = 0;");
        due("by 0 a LINK to itself, by others a line", x.tune(0), 1);
        due(x.tuned(0), -1);
        says("Promise 36: of a half: MEMBERS of ORDER 2 alone");
        on("works mirrors 6 twist 0;half 0 by 11;");
        due("the first of ORDER 2: turn 3", x.tune(0), 3);
        on("works cyclic 12 twist 0;half 0 by 6;arc 0 0 by 6;");
        due("there is one alone", x.tune(0), 6);
        on("works mirrors 3 twist 0;half 0 by 5;half 0 by 3;");
        due(x.tune(0), 4);
        due(x.tune(1), 3);
        says("Promise 36: CUT or not, all else as it is");
        on("works cyclic 12 twist 0;arc 0 0 by 2;arc 0 0 by 4;");
        x.cut(0);
        due("it stays CUT: all are alike", x.tune(0), 0);
        due("others stay CUT too", x.tune(1), 1);
        due(x.count(6), 1);
        due(x.arc(0, 2), 2);
        due(x.arc(1, 2), 4);
        due(x.count(7), 1);
        due(x.count(5), 12);
    }

    /** The first voltage for arc 1 by which rings are longest, beside an arc by a voltage, of cyclic 12; by turning. */
    private static int girths(int beside) {
        int best = -1;
        int longest = -1;
        for (int g = 0; g < 12; g++) {
            CageLift y = new CageLift();
            lay(y, "works cyclic 12 twist 0;arc 0 0 by " + beside + ";arc 0 0 by 0;");
            y.works(51);
            y.turn(1, g);
            if (y.girth() > longest) {
                longest = y.girth();
                best = g;
            }
        }
        return best;
    }

    private static void tuned() {
        says("Promise 37: that GIRTH; NONE: no RING then; -2");
        due(x.tuned(0), -2);
        on(FULL);
        for (int a : new int[] {-1, 12, 13, BELOW, BEYOND}) due("tuned(" + a + ")", x.tuned(a), -2);
        due(x.tuned(11), 2);
        on(RING);
        x.turn(4, 0);
        due("as long as there can be", x.tuned(4), 60);
        due(x.tuned(0), 60);
        on("works cyclic 1 twist 0;arc 0 0 by 0;");
        due("as short", x.tuned(0), 1);
        on("works cyclic 2 twist 0;half 0 by 1;");
        due(x.tuned(0), -1);
        on("works cyclic 12 twist 0;arc 0 0 by 2;arc 0 0 by 4;");
        x.cut(0);
        due("it stays CUT", x.tuned(0), 3);
        due(x.tuned(1), 12);
        x.cut(1);
        due("all CUT", x.tuned(1), -1);
    }

    private static void searchBounds() {
        says("THE SEARCH for d (2 to 4), g (3 to 8), n NODES (1 to 14); promise 38: -3: d, g, n");
        for (int d : new int[] {2, 4}) for (int g : new int[] {3, 8}) for (int n : new int[] {1, 14}) due(x.search(d, g, n, 1) >= 1 ? 1 : 0, 1);
        for (int d : new int[] {1, 0, -1, 5, 6, BELOW, BEYOND}) due("d " + d, x.search(d, 3, 3, 0), -3);
        for (int g : new int[] {2, 1, 0, -1, 9, 10, BELOW, BEYOND}) due("g " + g, x.search(2, g, 3, 0), -3);
        for (int n : new int[] {0, -1, 15, 16, BELOW, BEYOND}) due("n " + n, x.search(2, 3, n, 0), -3);
        says("Promise 38: -2: what, ahead of -3");
        for (int what : new int[] {-1, 3, 4, BELOW, BEYOND}) {
            due("what " + what, x.search(2, 3, 3, what), -2);
            due("what " + what, x.search(1, 2, 0, what), -2);
        }
        due(x.search(1, 2, 0, 2), -3);
    }

    private static void searchEdges() {
        says("A STEP: of all NODES of less than d LINKS the least one (none: it is FOUND)");
        steps(2, 3, 1, 0, 1, 0);
        steps(4, 8, 1, 0, 1, 0);
        steps(2, 3, 2, 0, 2, 1);
        steps(2, 3, 3, 1, 4, 0);
        says("with no way from u of fewer than g - 1 LINKS: a RING of g is the first that can be");
        for (int g = 3; g <= 8; g++) {
            // As many links as nodes, and the step by which it is found.
            steps(2, g, g, 1, g + 1, 0);
            // One node less: joined in a line, the last of which finds no partner.
            steps(2, g, g - 1, 0, g - 1, g - 2);
        }
        says("BOUND by trees: fewer NODES aren't FOUND, as many are, if there is such a network");
        due(x.search(3, 3, 3, 0), 0);
        due(x.search(3, 3, 4, 0), 1);
        due(x.search(3, 4, 5, 0), 0);
        due(x.search(3, 4, 6, 0), 1);
        due(x.search(3, 5, 9, 0), 0);
        due(x.search(3, 5, 10, 0), 1);
        due(x.search(3, 6, 13, 0), 0);
        due(x.search(3, 6, 14, 0), 1);
        due(x.search(4, 3, 4, 0), 0);
        due(x.search(4, 3, 5, 0), 1);
        due(x.search(4, 4, 7, 0), 0);
        due(x.search(4, 4, 8, 0), 1);
        due(x.search(3, 7, 14, 0), 0);
        says("of all greater NODES without LINKS only the least one can be a partner (none of them, if that is SHUT OUT)");
        // 0 1, 0 2, then 1 has no partner but 3, 3 none at all.
        steps(2, 4, 3, 0, 3, 2);
        steps(3, 3, 3, 0, 3, 2);
        // From 0 on: 1; of it 2, of that 3; 1 2 closes 0 1 2, then 1 3 and 2 3: six links.
        steps(3, 3, 4, 1, 7, 0);
        says("At most 5000 STEPS; when one more would be made, it is OPEN");
        int open = 0;
        for (int d = 2; d <= 4; d++) {
            for (int g = 3; g <= 8; g++) {
                x = new CageLift();
                for (int n = 1; n <= 14; n++) {
                    int how = x.search(d, g, n, 0);
                    int many = x.search(d, g, n, 1);
                    int shut = x.search(d, g, n, 2);
                    due("at most 5000", many <= 5000 && (how != 2 || many == 5000) ? 1 : 0, 1);
                    // Each step but the first is that of a pair, which is shut out behind it, if it isn't found: all of them.
                    if (how == 0) due("SHUT OUT of " + d + " " + g + " " + n, shut, many - 1);
                    if (how == 1) due("left joined of " + d + " " + g + " " + n, shut, many - 1 - d * n / 2);
                    if (how == 2) due("fewer SHUT OUT of " + d + " " + g + " " + n, shut < many - 1 ? 1 : 0, 1);
                    open += how == 2 ? 1 : 0;
                }
            }
        }
        due("so many are OPEN", open, 5);
        // Worked out by another program, written from the document by itself.
        steps(3, 4, 11, 2, 5000, 4987);
        steps(3, 3, 11, 2, 5000, 4986);
        steps(3, 3, 13, 2, 5000, 4983);
        steps(3, 4, 13, 2, 5000, 4984);
        steps(3, 5, 13, 2, 5000, 4983);
        says("THE SEARCH: long ones that are FOUND ahead of 5000 STEPS");
        steps(4, 4, 11, 1, 966, 943);
        steps(4, 4, 12, 1, 3739, 3714);
        steps(4, 4, 13, 1, 3831, 3804);
        steps(4, 4, 14, 1, 3531, 3502);
    }

    private static void steps(int d, int g, int n, int how, int many, int shut) {
        String call = "search(" + d + ", " + g + ", " + n + ", ";
        due(call + "0)", x.search(d, g, n, 0), how);
        due(call + "1)", x.search(d, g, n, 1), many);
        due(call + "2)", x.search(d, g, n, 2), shut);
    }

    private static void found() {
        says("Promise 39: -3: d, g, n, NODES");
        for (int d : new int[] {1, 5, BELOW, BEYOND}) due("d " + d, x.found(d, 3, 3, 0, 1), -3);
        for (int g : new int[] {2, 9, BELOW, BEYOND}) due("g " + g, x.found(2, g, 3, 0, 1), -3);
        for (int n : new int[] {0, -1, 15, BELOW, BEYOND}) due("n " + n, x.found(2, 3, n, 0, 0), -3);
        for (int v : new int[] {-1, 3, 14, 31, 32, 33, BELOW, BEYOND}) {
            due("NODE " + v, x.found(2, 3, 3, v, 0), -3);
            due("NODE " + v, x.found(2, 3, 3, 0, v), -3);
        }
        due("the last two", x.found(2, 3, 3, 2, 1), 1);
        due(x.found(2, 3, 14, 13, 12), 1);
        due(x.found(2, 3, 14, 14, 12), -3);
        says("Promise 39: NONE: it isn't FOUND (-3 ahead of it)");
        due("it isn't", x.found(2, 4, 3, 0, 1), -1);
        due("it is OPEN", x.found(3, 4, 11, 0, 1), -1);
        due(x.found(2, 4, 3, 0, 3), -3);
        due(x.found(3, 4, 11, 11, 0), -3);
        due("one NODE", x.found(2, 3, 1, 0, 0), -1);
        due(x.found(2, 3, 1, 0, 1), -3);
        says("Promise 39: whether two NODES are joined: 1, else 0 (either way; none with itself)");
        for (int a = 0; a < 5; a++) for (int b = 0; b < 5; b++) due("all of five", x.found(4, 3, 5, a, b), a == b ? 0 : 1);
        for (int a = 0; a < 8; a++) {
            int many = 0;
            for (int b = 0; b < 8; b++) {
                many += x.found(4, 4, 8, a, b);
                due(x.found(4, 4, 8, a, b), x.found(4, 4, 8, b, a));
            }
            due("its LINKS", many, 4);
        }
        says("Promise 39: of its own search, whichever was asked ahead");
        due(x.search(2, 3, 6, 0), 1);
        due(x.found(2, 3, 3, 1, 2), 1);
        due(x.found(2, 3, 6, 1, 2), 1);
        due(x.found(2, 6, 6, 1, 2), 0);
        due(x.found(2, 3, 6, 1, 2), 1);
        says("THE SEARCH: another d, another g, another n alone is another one");
        due(x.search(2, 3, 4, 1), 6);
        due("d", x.search(3, 3, 4, 1), 7);
        due("d", x.search(4, 3, 4, 0), 0);
        due("d", x.search(2, 3, 4, 0), 1);
        due("g", x.search(2, 4, 4, 0), 1);
        due("g", x.search(2, 5, 4, 0), 0);
        due("n", x.search(2, 5, 5, 0), 1);
        due("n", x.search(2, 5, 4, 0), 0);
        due("the same again", x.search(2, 5, 4, 1), 4);
    }

    private static void weighedLengths() {
        says("WEIGHED in a TRAY (1 to 8 numbers); promise 40: -4: not 1 to 8 numbers");
        for (int n = 0; n <= 40; n++) {
            on("works cyclic 2 twist 0;half 0 by 1;");
            x.numbers(0, 1, n);
            for (int i = 0; i < n; i++) x.write(0, i, 1);
            due(n + " numbers", x.twists(0), n >= 1 && n <= 8 ? 1023 : -4);
            due(n + " numbers", x.weigh(0), n >= 1 && n <= 8 ? 0 : -4);
            for (int i = 0; i < n; i++) x.write(0, i, -1);
            due("-4 goes ahead of -3", x.twists(0), n >= 1 && n <= 8 ? -3 : -4);
            due("-4 goes ahead of -3", x.weigh(0), n >= 1 && n <= 8 ? -3 : -4);
        }
    }

    private static void weighedNumbers() {
        says("Promise 40: -3: one isn't an arc's number, a MEMBER and 1 to 99");
        String text = "works mirrors 2 twist 0;half 0 by 2;arc 0 0 by 1;weighs : 99;";
        long[] taken = {1, 99, 101, 301, 399, 10001, 10099, 10301, 10399};
        long[] not = {0, 100, 200, 300, 400, 401, 499, 500, 1001, 9901, 9999, 10000, 10100, 10400, 10401, 10499, 19999, 20000, 20001, 110301,
            -1, -99, -100, -9999, -10001, 1L << 32, (1L << 32) + 1, (1L << 32) + 10099, Long.MAX_VALUE, Long.MIN_VALUE, Long.MIN_VALUE + 1};
        on(text);
        for (long v : taken) {
            tray(0, 3, v);
            due(v + " weighed", x.twists(0), v % 100 == 99 ? 1023 : 0);
            due(v + " weighed", x.weigh(0), v % 100 == 99 ? 0 : -1);
        }
        for (long v : not) {
            on(text);
            tray(0, 3, v);
            due(v + " weighed", x.twists(0), -3);
            due(v + " weighed", x.weigh(0), -3);
            tray(0, 3, 99, 99, 99, 99, 99, 99, 99, v);
            due(v + " weighed as the eighth", x.twists(0), -3);
            tray(0, 3, v, 1);
            due("-3 though no TWIST is left", x.twists(0), -3);
        }
        says("Promise 40: the last arc's number, the last MEMBER");
        on(FULL);
        tray(0, 2, 111101);
        due(x.twists(0), 1023);
        tray(0, 2, 111199);
        due(x.twists(0), 0);
        on(FULL + "weighs : 12 - arc;");
        for (int a = 0; a < 12; a++) {
            tray(0, 2, a * 10000 + 12 - a);
            due("arc " + a + ", its ONE", x.twists(0), 1023);
            tray(0, 2, a * 10000 + 1100 + 12 - a);
            due("arc " + a + ", its last MEMBER", x.twists(0), 1023);
        }
        tray(0, 2, 111201);
        due(x.twists(0), -3);
        tray(0, 2, 120001);
        due(x.twists(0), -3);
        x = new CageLift();
        tray(0, 2, 1);
        due("there are no arcs", x.twists(0), -3);
        due("there are no arcs", x.weigh(0), -3);
    }

    private static void twists() {
        says("WEIGHED: TWISTS 0 to 9 by which it is so, as bits");
        on("works cyclic 3 twist 5;arc 0 0 by 1;weighs : twist * 11;");
        for (int t = 0; t <= 9; t++) {
            tray(0, 1, Math.max(1, t * 11));
            due("TWIST " + t, x.twists(0), 1 << t);
        }
        tray(0, 1, 2);
        due("none", x.twists(0), 0);
        tray(0, 1, 11, 122);
        due("one behind the other: none", x.twists(0), 0);
        due("the TWIST stays", x.count(3), 5);
        says("WEIGHED: 1 at least, 99 at most");
        on("works cyclic 3 twist 5;arc 0 0 by 1;weighs : (twist - 4) * 50;");
        tray(0, 1, 1);
        due(x.twists(0), 31);
        tray(0, 1, 50);
        due(x.twists(0), 1 << 5);
        tray(0, 1, 99);
        due(x.twists(0), 15 << 6);
        says("WEIGHED: of a half all MEMBERS x; whether it is CUT, is kept, aside");
        on("works cyclic 4 twist 5;half 0 by 2;weighs : member + 1;keeps : 1 = 2;");
        x.cut(0);
        tray(0, 1, 1, 102, 203, 304);
        due(x.twists(0), 1023);
        tray(0, 1, 301);
        due(x.twists(0), 0);
    }

    private static void weigh() {
        says("Promise 41: the greatest number of these TWISTS by which it WEIGHS the same is least, the first");
        on("works cyclic 12 twist 0;" + "arc 0 0 by 1;".repeat(12) + "weighs : if arc = 11 and member = 11 then twist + 1 else 5 end;");
        tray(0, 2, 5);
        due("the last LINK of all", x.weigh(0), 1111);
        tray(0, 2, 111105);
        due("one TWIST alone: the first", x.weigh(0), 0);
        on("works cyclic 2 twist 0;arc 0 0 by 1;arc 0 0 by 1;weighs : if arc = 0 then if twist < 5 then 1 + member else 2 + member end else 3 end;");
        tray(0, 2, 10003);
        due("five and five, as the other: the first", x.weigh(0), 0);
        tray(0, 2, 1);
        due(x.twists(0), 31);
        due("all are alike: the first", x.weigh(0), 0);
        on("works cyclic 3 twist 0;arc 0 0 by 0;weighs : if member = 0 then 4 else if twist < 8 - member then 1 else 2 end end;");
        tray(0, 2, 4);
        due("6 at most is less than 7 and 10", x.weigh(0), 2);
        says("Promise 41: of these TWISTS: the first and the last of them too, others not");
        on("works cyclic 2 twist 0;arc 0 0 by 0;weighs : if member = 0 then if twist < 3 then 30 else 40 + twist end else if twist = 4 then 53 else 50 + twist end end;");
        tray(0, 2, 30);
        due(x.twists(0), 7);
        due("three are alike, those told apart win", x.weigh(0), 1);
        on("works cyclic 3 twist 0;arc 0 0 by 0;weighs : if member = 0 then 9 else if member = 1 then if twist < 3 then 30 else 40 + twist end else if twist = 4 then 53 else 50 + twist end end end;");
        tray(0, 2, 9);
        due("0, 1, 2 by the one, 3, 4 by the other", x.weigh(0), 2);
        on("works cyclic 3 twist 0;arc 0 0 by 0;weighs : if member = 0 then 9 else if member = 1 then if twist > 6 then 30 else 40 + twist end else if twist = 4 then 53 else 50 + twist end end end;");
        tray(0, 2, 9);
        due("7, 8, 9 by the one, 3, 4 by the other", x.weigh(0), 2);
        tray(0, 2, 130);
        due("of 7, 8, 9 alone", x.twists(0), 7 << 7);
        due(x.weigh(0), 2);
        on("works cyclic 2 twist 0;arc 0 0 by 0;weighs : if member = 0 then if twist = 0 then 7 else 8 end else 1 + twist end;");
        tray(0, 2, 7);
        due("TWIST 0 alone", x.twists(0), 1);
        due("the first LINK", x.weigh(0), 0);
        tray(0, 2, 110);
        due("TWIST 9 alone", x.twists(0), 512);
        due("the first LINK", x.weigh(0), 0);
        says("Promise 41: a half's LINKS, all MEMBERS, CUT or not");
        on("works cyclic 4 twist 5;half 0 by 2;weighs : if member = 3 then twist + 1 else 1 end;keeps : 1 = 2;");
        x.cut(0);
        tray(0, 2, 1);
        due(x.weigh(0), 3);
        says("Promise 41: NONE: there are none");
        tray(0, 2, 9);
        on("works cyclic 4 twist 5;half 0 by 2;");
        tray(0, 2, 9);
        due(x.twists(0), 0);
        due(x.weigh(0), -1);
    }

    private static void chanceBounds() {
        says("Promise 42: -3: k (1 to 60), n lots (0 to 2)");
        on(RING);
        due("60 at least", x.chance(60, 0, 0), 1);
        due(x.chance(1, 0, 0), 1);
        due(x.chance(60, 2, 0) >= 0 ? 1 : 0, 1);
        for (int k : new int[] {0, -1, 61, 62, BELOW, BEYOND}) for (int n = 0; n <= 2; n++) due("chance(" + k + ", " + n + ")", x.chance(k, n, 0), -3);
        for (int n : new int[] {-1, 3, 4, BELOW, BEYOND}) for (int k : new int[] {1, 60}) due("chance(" + k + ", " + n + ")", x.chance(k, n, 1), -3);
        says("Promise 42: -2: what, ahead of -3");
        for (int what : new int[] {-1, 2, 3, BELOW, BEYOND}) {
            due("what " + what, x.chance(1, 0, what), -2);
            due("what " + what, x.chance(0, 3, what), -2);
        }
        says("Promise 42: that the GIRTH is k at least, or there is no RING");
        for (int k = 1; k <= 60; k++) due("no RING, k " + k, x.chance(k, 2, 0), 1);
        on("works cyclic 8 twist 0;half 0 by 4;arc 0 0 by 1;");
        x.cut(0);
        for (int k = 1; k <= 60; k++) due("a RING of eight, k " + k, x.chance(k, 0, 0), k <= 8 ? 1 : 0);
        says("Promise 42: the number above, below, in lowest terms");
        // Lot 1 turns the ring of eight to two of four; twice to one of eight.
        on("works cyclic 8 twist 0;half 0 by 4;arc 0 0 by 1;");
        x.cut(0);
        due(x.chance(8, 1, 0), 9);
        due(x.chance(8, 1, 1), 10);
        due(x.chance(8, 2, 0), 41);
        due(x.chance(8, 2, 1), 50);
        due(x.chance(4, 1, 0), 1);
        due(x.chance(4, 1, 1), 1);
        due("never", x.chance(9, 2, 0), 0);
        due("never", x.chance(9, 2, 1), 1);
        due("never", x.chance(9, 0, 1), 1);
    }

    private static void lots() {
        says("CHANCE: n times one of ten lots: by lot v the VOLTAGE of arc v: arc 9 has the last one");
        String halves = "half 0 by 1;";
        for (int at = 0; at < 12; at++) {
            // The one arc is a link to itself by 0, two links by 1.
            on("works cyclic 2 twist 0;" + halves.repeat(at) + "arc 0 0 by 0;" + halves.repeat(11 - at));
            for (int a = 0; a < 12; a++) if (a != at) x.cut(a);
            due("arc " + at, x.chance(2, 1, 0), at <= 9 ? 1 : 0);
            due("arc " + at, x.chance(2, 1, 1), at <= 9 ? 10 : 1);
            due("arc " + at + " by two lots", x.chance(2, 2, 0), at <= 9 ? 9 : 0);
            due("arc " + at + " by two lots", x.chance(2, 2, 1), at <= 9 ? 50 : 1);
        }
        says("CHANCE: of others, of halves, of a group of one: nothing");
        on("works cyclic 1 twist 0;arc 0 0 by 0;");
        due(x.chance(1, 2, 0), 1);
        due(x.chance(2, 2, 0), 0);
        due(x.mean(2, 0), 1);
        on("works mirrors 3 twist 0;half 0 by 3;half 0 by 4;");
        due("halves stay", x.chance(6, 2, 0), 1);
        due(x.chance(7, 2, 0), 0);
        says("CHANCE: it times MEMBER 1, and all is as it was behind it");
        on("works cyclic 12 twist 0;arc 0 0 by 11;");
        // By 11 twelve, by 0 one, by 1 twelve.
        due(x.chance(12, 1, 0), 9);
        due(x.chance(12, 1, 1), 10);
        due(x.chance(12, 2, 0), 41);
        due(x.chance(12, 2, 1), 50);
        due(x.arc(0, 2), 11);
        due(x.count(7), 0);
        due(x.girth(), 12);
        on("works quaternions twist 0;arc 0 0 by 2;arc 0 0 by 7;");
        x.cut(1);
        // j times i is -k, of order 4; times i again -j.
        due(x.chance(4, 2, 0), 1);
    }

    private static void mean() {
        says("Promise 43: -3: n (0 to 2); -2: what, ahead of -3");
        for (int n : new int[] {-1, 3, 4, BELOW, BEYOND}) due("mean(" + n + ", 0)", x.mean(n, 0), -3);
        for (int what : new int[] {-1, 2, 3, BELOW, BEYOND}) {
            due("mean(0, " + what + ")", x.mean(0, what), -2);
            due("mean(3, " + what + ")", x.mean(3, what), -2);
        }
        says("Promise 43: GIRTH on the mean (no RING: 0), in lowest terms");
        for (int n = 0; n <= 2; n++) {
            due("no RING", x.mean(n, 0), 0);
            due("no RING", x.mean(n, 1), 1);
        }
        on(RING);
        due("as long as there can be", x.mean(0, 0), 60);
        due(x.mean(0, 1), 1);
        // Each of five lots makes the voltage of the whole 2: rings of thirty.
        due("45", x.mean(1, 0), 45);
        due(x.mean(1, 1), 1);
        // Twice none: a quarter, 60; once: a half, 30; twice: a quarter, by 3: twenty.
        due("15 + 15 + 5", x.mean(2, 0), 35);
        due(x.mean(2, 1), 1);
        on("works cyclic 2 twist 0;arc 0 0 by 0;");
        due(x.mean(1, 0), 11);
        due(x.mean(1, 1), 10);
        // By 18 draws of 100 it is 2.
        due(x.mean(2, 0), 59);
        due(x.mean(2, 1), 50);
        on("works cyclic 2 twist 0;places 2;arc 0 0 by 1;arc 1 0 by 0;keeps : arc = 1 or member = 0;");
        // By 1 a line, by 0 a link to itself.
        due("no RING counts as 0", x.mean(1, 0), 1);
        due(x.mean(1, 1), 10);
    }
}
