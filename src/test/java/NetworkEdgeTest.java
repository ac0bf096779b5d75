/** Edges of THE NETWORK, its RINGS, BOUNDS, weights: promises 17 to 33. */
public final class NetworkEdgeTest extends Bench {
    private static final int BEYOND = Integer.MAX_VALUE;
    private static final int BELOW = Integer.MIN_VALUE;
    /** Sixty nodes, as many as there can be: none joined; one ring; one line from node 0 on; a ring in which nodes follow one another. */
    private static final String BARE = "works cyclic 12 twist 0;places 5;";
    private static final String RING = BARE + "arc 0 1 by 0;arc 1 2 by 0;arc 2 3 by 0;arc 3 4 by 0;arc 4 0 by 1;";
    private static final String LINE = RING + "keeps : not [arc = 4 and member = 11];";
    /** A network of one place without links, with a link to itself, with two; of two nodes with two links, with one. */
    private static final String LOOP = "works cyclic 1 twist 0;arc 0 0 by 0;";
    private static final String LOOPS = "works cyclic 1 twist 0;arc 0 0 by 0;arc 0 0 by 0;";
    private static final String PAIR = "works cyclic 2 twist 0;arc 0 0 by 1;";
    private static final String LINK = "works cyclic 2 twist 0;half 0 by 1;";
    private static final String HEAWOOD = "works cyclic 7 twist 0;places 2;arc 0 1 by 0;arc 0 1 by 1;arc 0 1 by 3;";

    public static void main(String[] args) {
        nodes();
        joins();
        degree();
        neighbour();
        regular();
        parts();
        twoColours();
        far();
        diameter();
        ball();
        girth();
        ring();
        firstRings();
        rings();
        through();
        bound();
        excess();
        light();
        lightest();
        end();
    }

    private static void nodes() {
        for (String text : new String[] {"works cyclic 1 twist 0;", LINK, "works mirrors 3 twist 0;places 2;", BARE, RING}) {
            on(text);
            int many = x.count(4);
            for (int n : new int[] {-1, many, many + 1, BELOW, BEYOND}) {
                says("Promises 17, 18, 19, 23, 25, 29, 32: -2: no such NODE, " + n + " of " + many);
                on(text);
                due(x.joins(n, 0), -2);
                due(x.joins(0, n), -2);
                due(x.joins(n, n), -2);
                due(x.degree(n), -2);
                due(x.neighbour(n, 0), -2);
                due(x.far(n, 0), -2);
                due(x.far(0, n), -2);
                due(x.far(n, n), -2);
                due(x.ball(n, 0), -2);
                due(x.through(n), -2);
                due(x.light(n, 0), -2);
                due(x.light(0, n), -2);
                due(x.light(n, n), -2);
            }
            says("Promises 17 to 32: the last NODE, " + (many - 1) + ", is one");
            on(text);
            due(x.joins(many - 1, many - 1), 0);
            due(x.degree(many - 1) >= 0 ? 1 : 0, 1);
            due(x.neighbour(many - 1, 60), -1);
            due(x.far(many - 1, many - 1), 0);
            due(x.ball(many - 1, 0), 1);
            due(x.through(many - 1) >= -1 ? 1 : 0, 1);
            due(x.light(many - 1, many - 1), 0);
        }
        says("NODE p times the group's size and x: PLACE p, MEMBER x");
        on("works mirrors 3 twist 0;places 3;arc 1 2 by 4;");
        // Turn 2 times mirror 1 is mirror 0, mirror 2 times mirror 1 turn 1.
        due(x.joins(6 + 2, 12 + 3), 1);
        due(x.joins(6 + 5, 12 + 1), 1);
        due(x.count(5), 6);
    }

    private static void joins() {
        says("Promise 17: how many LINKS join two NODES (one and the same, too)");
        due(x.joins(0, 0), 0);
        on(LOOP);
        due(x.joins(0, 0), 1);
        on(LOOPS);
        due(x.joins(0, 0), 2);
        on(PAIR);
        due(x.joins(0, 1), 2);
        due(x.joins(1, 0), 2);
        due(x.joins(0, 0), 0);
        on("works cyclic 2 twist 0;" + "arc 0 0 by 1;".repeat(12));
        due("as many as there can be", x.joins(0, 1), 24);
        for (int a = 0; a < 12; a++) x.cut(a);
        due(x.joins(0, 1), 0);
    }

    private static void degree() {
        says("DEGREE of a NODE: how many ends of LINKS lie there (a LINK to itself has two)");
        due(x.degree(0), 0);
        on(LOOP);
        due(x.degree(0), 2);
        on("works cyclic 1 twist 0;" + "arc 0 0 by 0;".repeat(12));
        due("as many as there can be", x.degree(0), 24);
        on(LINK);
        due(x.degree(0), 1);
        on("works cyclic 12 twist 0;" + "half 0 by 6;".repeat(12));
        due(x.degree(11), 12);
    }

    private static void neighbour() {
        says("Promise 19: NONE: not so many; -2; -3: i is below 0");
        due("no NEIGHBOUR at all", x.neighbour(0, 0), -1);
        due(x.neighbour(0, -1), -3);
        due(x.neighbour(0, BELOW), -3);
        due("-2 first", x.neighbour(1, -1), -2);
        due("-2 first", x.neighbour(-1, BELOW), -2);
        says("NEIGHBOURS: other NODES, each once, by their numbers");
        on(LOOPS);
        due("itself is none", x.neighbour(0, 0), -1);
        on("works cyclic 2 twist 0;places 2;arc 1 1 by 1;arc 1 0 by 1;arc 1 1 by 0;arc 0 1 by 1;arc 1 0 by 0;");
        due(x.neighbour(3, 0), 0);
        due(x.neighbour(3, 1), 1);
        due(x.neighbour(3, 2), 2);
        due(x.neighbour(3, 3), -1);
        due(x.neighbour(3, BEYOND), -1);
        StringBuilder all = new StringBuilder("works cyclic 12 twist 0;");
        for (int g = 1; g < 12; g++) all.append("arc 0 0 by ").append(g).append(';');
        on(all.toString());
        for (int i = 0; i < 11; i++) due(x.neighbour(5, i), i < 5 ? i : i + 1);
        due("eleven others", x.neighbour(5, 11), -1);
        says("NEIGHBOURS: of each NODE its own, whatever was asked ahead");
        on("works cyclic 5 twist 0;arc 0 0 by 1;keeps : member < 4;");
        x.parts();
        x.light(0, 4);
        for (int n = 4; n >= 0; n--) {
            int before = n > 0 ? n - 1 : -1;
            int behind = n < 4 ? n + 1 : -1;
            due("the least of " + n, x.neighbour(n, 0), before >= 0 ? before : behind);
            due("the next of " + n, x.neighbour(n, 1), before >= 0 ? behind : -1);
            due(x.neighbour(n, 2), -1);
        }
        on(RING);
        due("the last of sixty", x.neighbour(0, 0), 12);
        due(x.neighbour(0, 1), 59);
        due(x.neighbour(0, 2), -1);
    }

    private static void regular() {
        says("Promise 20: the DEGREE all NODES have; NONE: they are unlike");
        due("one NODE", x.regular(), 0);
        on(BARE);
        due("no LINK", x.regular(), 0);
        on(LOOP);
        due(x.regular(), 2);
        on(RING);
        due(x.regular(), 2);
        on(LINE);
        due("its last NODE is unlike", x.regular(), -1);
        for (int n = 0; n < 4; n++) {
            on("works cyclic 4 twist 0;arc 0 0 by 0;keeps : member = " + n + ";");
            due("one alone has a LINK", x.regular(), -1);
            on("works cyclic 4 twist 0;arc 0 0 by 0;keeps : not member = " + n + ";");
            due("one alone has none", x.regular(), -1);
        }
        on("works cyclic 12 twist 0;places 5;arc 4 4 by 0;keeps : member = 11;");
        due("the last NODE alone", x.regular(), -1);
        on("works cyclic 12 twist 0;places 5;arc 0 0 by 0;keeps : member = 0;");
        due("the first NODE alone", x.regular(), -1);
    }

    private static void parts() {
        says("Promise 21: how many parts that hang together");
        due(x.parts(), 1);
        on(BARE);
        due("none joined", x.parts(), 60);
        on(BARE + "arc 4 4 by 6;keeps : member = 5;");
        due("two joined", x.parts(), 59);
        on(LINE);
        due(x.parts(), 1);
        on(RING);
        due(x.parts(), 1);
        x.turn(4, 0);
        due(x.parts(), 12);
        x.turn(4, 6);
        due(x.parts(), 6);
    }

    private static void twoColours() {
        says("Promise 22: whether NODES can be of two colours: 1, else 0");
        due("no LINK", x.twoColours(), 1);
        on(LOOP);
        due("a LINK to itself", x.twoColours(), 0);
        on(PAIR);
        due("two LINKS of the same two NODES", x.twoColours(), 1);
        for (int n = 3; n <= 12; n++) {
            on("works cyclic " + n + " twist 0;arc 0 0 by 1;");
            due("a RING of " + n, x.twoColours(), n % 2 == 0 ? 1 : 0);
        }
        on("works cyclic 12 twist 0;places 5;arc 4 4 by 4;keeps : member = 3 or member = 7 or member = 11;");
        due("a RING of three in the last part", x.twoColours(), 0);
        on("works cyclic 12 twist 0;places 5;arc 4 4 by 0;keeps : member = 11;");
        due("a LINK to itself at the last NODE", x.twoColours(), 0);
        on(LINE);
        due(x.twoColours(), 1);
        says("Promise 22: of several parts each can be, or one can't");
        on("works cyclic 6 twist 0;places 3;arc 0 0 by 1;arc 1 1 by 1;arc 2 2 by 3;");
        due(x.twoColours(), 1);
        x.turn(2, 2);
        due(x.parts(), 4);
        due("the last ones can't", x.twoColours(), 0);
        x.turn(2, 3);
        x.turn(0, 2);
        due(x.parts(), 6);
        due("the first ones can't", x.twoColours(), 0);
    }

    private static void far() {
        says("Promise 23: the fewest LINKS of a way; NONE: there is no way");
        due("itself", x.far(0, 0), 0);
        on(LOOP);
        due("itself, by no LINK", x.far(0, 0), 0);
        on(LINE);
        due("the longest way there can be", x.far(0, 59), 59);
        due(x.far(59, 0), 59);
        on(RING);
        due(x.far(0, 59), 1);
        due("half way round", x.far(0, 6), 30);
        on(BARE);
        due(x.far(0, 59), -1);
        due(x.far(59, 0), -1);
    }

    private static void diameter() {
        says("Promise 24: the greatest far() of all NODES; NONE: there are NODES without a way");
        due(x.diameter(), 0);
        on(LOOP);
        due(x.diameter(), 0);
        on(LINK);
        due(x.diameter(), 1);
        on(LINE);
        due(x.diameter(), 59);
        on(RING);
        due(x.diameter(), 30);
        on(BARE);
        due(x.diameter(), -1);
        on(LINE + "keeps : not [arc = 3 and member = 11] and not [arc = 4 and member = 11];");
        due("the last NODE alone", x.diameter(), -1);
    }

    private static void ball() {
        says("Promise 25: NODES no farther than r (0 to 99) (itself too); -2; -3");
        due(x.ball(0, 0), 1);
        due(x.ball(0, 99), 1);
        on(LINE);
        for (int r = 0; r <= 99; r++) due("ball(0, " + r + ")", x.ball(0, r), Math.min(60, r + 1));
        for (int r : new int[] {-1, 100, 101, BELOW, BEYOND}) due("ball(0, " + r + ")", x.ball(0, r), -3);
        for (int r : new int[] {-1, 100, BELOW, BEYOND}) due("-2 first", x.ball(60, r), -2);
        due("other parts aren't near", tell(BARE), 2);
        due(x.ball(59, 99), 1);
    }

    private static void girth() {
        says("GIRTH: the shortest length; promise 26: NONE: there are no RINGS");
        due(x.girth(), -1);
        on(LOOP);
        due("a LINK to itself: 1", x.girth(), 1);
        on(PAIR);
        due("two LINKS of the same two NODES: 2", x.girth(), 2);
        on(LINK);
        due("one LINK there and back is none", x.girth(), -1);
        on(LINK.replace("half", "half 0 by 1;half"));
        due("two halves", x.girth(), 2);
        for (int n = 3; n <= 12; n++) {
            on("works cyclic " + n + " twist 0;arc 0 0 by 1;");
            due("a RING of " + n, x.girth(), n);
        }
        on(RING);
        due("as long as there can be", x.girth(), 60);
        on(LINE);
        due("a line", x.girth(), -1);
        on(BARE + "arc 4 4 by 0;keeps : member = 11;");
        due("at the last NODE", x.girth(), 1);
        says("GIRTH: the shortest length, wherever it lies: one longer, by one, comes first");
        for (int length = 3; length <= 11; length++) {
            // At each place a line of links by 1, closed by one link; place 0 has the longer ring, place 4 the shorter one.
            String laws = "keeps : arc = 0 and member < " + length + " or arc = 1 and member = 0 or arc = 2 and member < " + (length - 1) + " or arc = 3 and member = 0;";
            on("works cyclic 12 twist 0;places 5;arc 0 0 by 1;arc 0 0 by " + length + ";arc 4 4 by 1;arc 4 4 by " + (length - 1) + ";" + laws);
            due("the second ring is one of " + length, x.girth(), length);
            due(x.ring(0), 48);
            due(x.ring(length), -1);
            due(x.through(0), length + 1);
            due(x.through(48), length);
            due(x.through(59), -1);
            due(x.lightest(), length);
        }
    }

    private static void ring() {
        says("Promise 27: NONE: not so many, no RING; -3: i is below 0");
        due("no RING", x.ring(0), -1);
        due("no RING", x.ring(BEYOND), -1);
        due("-3 ahead of NONE", x.ring(-1), -3);
        due("-3 ahead of NONE", x.ring(BELOW), -3);
        on(LOOP);
        due(x.ring(0), 0);
        due(x.ring(1), -1);
        on(PAIR);
        due(x.ring(0), 0);
        due(x.ring(1), 1);
        due(x.ring(2), -1);
        on(RING);
        // From node 0 on to 12, as 12 is less than 59.
        for (int i = 0; i < 60; i++) due("ring(" + i + ")", x.ring(i), i % 5 * 12 + i / 5);
        due(x.ring(60), -1);
        due(x.ring(61), -1);
        due(x.ring(BEYOND), -1);
        due(x.ring(-1), -3);
        says("The first RING of that length: by its NODES, from its least one on, the second one less than the last");
        on("works cyclic 5 twist 0;arc 0 0 by 3;");
        int[] five = {0, 2, 4, 1, 3};
        for (int i = 0; i < 5; i++) due("ring(" + i + ")", x.ring(i), five[i]);
        on(HEAWOOD);
        // 0 joins 7, 8, 10; 1 joins 8, 9, 11; 5 joins 12, 13, 8; 6 joins 13, 7, 9; 4 joins 11, 12, 7.
        int[] six = {0, 7, 4, 11, 1, 8};
        for (int i = 0; i < 6; i++) due("ring(" + i + ")", x.ring(i), six[i]);
        on("works cyclic 12 twist 0;places 5;arc 4 4 by 0;arc 0 0 by 1;keeps : arc = 1 or member > 9;");
        due("a shorter one goes ahead of a less one", x.ring(0), 58);
        due(x.ring(1), -1);
        on("works cyclic 6 twist 0;places 2;arc 0 1 by 0;arc 1 0 by 0;keeps : arc = 0 or member > 3;");
        due("one LINK of two NODES is no RING", x.ring(0), 4);
        due(x.ring(1), 10);
        due(x.ring(2), -1);
        on("works cyclic 6 twist 0;arc 0 0 by 1;arc 0 0 by 2;keeps : arc = 0 or member = 3 or member = 2;");
        // Rings of three: 2 3 4 and 3 4 5.
        due(x.girth(), 3);
        due(x.ring(0), 2);
        due(x.ring(1), 3);
        due(x.ring(2), 4);
    }

    private static void firstRings() {
        // The ring 2 4 5, and a link 0 5 that leads to it.
        firstRing("works cyclic 12 twist 0;arc 0 0 by 5;arc 0 0 by 2;arc 0 0 by 1;arc 0 0 by 3;keeps : arc = 0 and member = 0 or arc = 1 and member = 2 or arc = 2 and member = 4 or arc = 3 and member = 2;");
        due(x.ring(0), 2);
        for (int g = 1; g < 12; g++) {
            for (int h = 0; h < 12; h += 5) {
                firstRing("works mirrors 6 twist 0;places 3;arc 0 1 by " + g + ";arc 0 2 by " + h + ";arc 1 2 by 7;arc 0 1 by 0;keeps : not [arc = 3 and member < 4];");
                firstRing("works cyclic 12 twist 0;places 2;arc 0 0 by " + g + ";arc 1 1 by 5;arc 0 1 by " + h + ";keeps : not [arc = 0 and member < 3];");
            }
            firstRing("works quaternions twist 0;places 3;arc 0 1 by " + g % 8 + ";arc 1 2 by 3;arc 2 0 by 1;arc 1 0 by 2;");
        }
    }

    private static void firstRing(String text) {
        says("The first RING, as by going all ways: " + text);
        on(text);
        int[] path = new int[x.count(4)];
        boolean[][] joined = new boolean[path.length][path.length];
        for (int u = 0; u < path.length; u++) {
            on(text);
            for (int v = 0; v < u; v++) joined[u][v] = joined[v][u] = x.far(u, v) == 1;
        }
        int length = x.girth();
        if (length < 3) return;
        boolean found = false;
        for (int s = 0; s < path.length && !found; s++) {
            path[0] = s;
            found = goOn(path, 1, length, joined);
        }
        for (int i = 0; i < length; i++) due("ring(" + i + ")", x.ring(i), found ? path[i] : -1);
        due(x.ring(length), -1);
    }

    /** Whether the path goes on to a ring, its nodes greater than the first, by the least ones that can be. */
    private static boolean goOn(int[] path, int many, int length, boolean[][] joined) {
        if (many == length) return joined[path[many - 1]][path[0]] && path[1] < path[many - 1];
        for (int v = path[0] + 1; v < path.length; v++) {
            boolean met = false;
            for (int i = 0; i < many; i++) met |= path[i] == v;
            if (met || !joined[path[many - 1]][v]) continue;
            path[many] = v;
            if (goOn(path, many + 1, length, joined)) return true;
        }
        return false;
    }

    private static void rings() {
        says("Promise 28: how many RINGS there are of a length (1 to 6); -3");
        for (int n : new int[] {0, -1, 7, 8, BELOW, BEYOND}) due("rings(" + n + ")", x.rings(n), -3);
        for (int n = 1; n <= 6; n++) due("rings(" + n + ")", x.rings(n), 0);
        on(RING);
        for (int n : new int[] {0, -1, 7, 60, BELOW, BEYOND}) due("rings(" + n + ")", x.rings(n), -3);
        for (int n = 1; n <= 6; n++) due("rings(" + n + ")", x.rings(n), 0);
        for (int length = 3; length <= 6; length++) {
            on("works cyclic " + length + " twist 0;places 5;arc 4 4 by 1;");
            for (int n = 1; n <= 6; n++) due("rings(" + n + ")", x.rings(n), n == length ? 1 : 0);
        }
        on(LOOPS);
        due("each by itself", x.rings(1), 2);
        due(x.rings(2), 0);
        says("RINGS are alike, if they have the same LINKS: others by the same NODES are others");
        on("works cyclic 2 twist 0;" + "arc 0 0 by 1;".repeat(12));
        due("24 LINKS by twos", x.rings(2), 24 * 23 / 2);
        due(x.rings(1), 0);
        due(x.rings(3), 0);
        on("works cyclic 3 twist 0;" + "arc 0 0 by 1;".repeat(12));
        due(x.rings(3), 12 * 12 * 12);
        due(x.rings(2), 3 * 66);
        on("works cyclic 6 twist 0;" + "arc 0 0 by 1;".repeat(12));
        due(x.rings(6), 12 * 12 * 12 * 12 * 12 * 12);
        due(x.rings(5), 0);
        on("works cyclic 5 twist 0;" + "arc 0 0 by 1;".repeat(12));
        due(x.rings(5), 12 * 12 * 12 * 12 * 12);
        due(x.rings(6), 0);
        on("works cyclic 4 twist 0;" + "arc 0 0 by 1;".repeat(12));
        due(x.rings(4), 12 * 12 * 12 * 12);
        on("works cyclic 4 twist 0;arc 0 0 by 0;arc 0 0 by 0;arc 0 0 by 1;half 0 by 2;");
        // All four joined by twos, each with two links to itself.
        int[] four = {8, 0, 4, 3, 0, 0};
        for (int n = 1; n <= 6; n++) due("beside LINKS to themselves, rings(" + n + ")", x.rings(n), four[n - 1]);
        says("no NODE met twice, no LINK: of all twelve NODES joined by twos");
        StringBuilder all = new StringBuilder("works cyclic 12 twist 0;half 0 by 6;");
        for (int g = 1; g < 6; g++) all.append("arc 0 0 by ").append(g).append(';');
        on(all.toString());
        due(x.rings(3), 220);
        due(x.rings(4), 495 * 3);
        due(x.rings(5), 792 * 12);
        due(x.rings(6), 924 * 60);
    }

    private static void through() {
        says("Promise 29: the shortest length of a RING through a NODE; NONE: there is none");
        due(x.through(0), -1);
        on(LOOP);
        due(x.through(0), 1);
        on(PAIR);
        due(x.through(1), 2);
        due(x.through(0), 2);
        on("works cyclic 3 twist 0;places 2;arc 0 1 by 0;arc 1 0 by 0;arc 0 1 by 0;");
        for (int n = 0; n < 6; n++) due("three LINKS", x.through(n), 2);
        on("works cyclic 2 twist 0;arc 0 0 by 1;weighs : 9 - member * 5;");
        due(x.light(0, 1), 4);
        due("behind the lightest way, too", x.through(1), 2);
        due(x.lightest(), 13);
        due(x.through(0), 2);
        due(x.light(1, 0), 4);
        due(x.through(0), 2);
        on(LINK);
        due(x.through(1), -1);
        on(RING);
        due(x.through(0), 60);
        due(x.through(59), 60);
        on(LINE);
        due(x.through(30), -1);
        says("through a NODE: a RING that hangs on it by a line isn't through it");
        on("works cyclic 3 twist 0;places 3;arc 0 0 by 1;arc 0 1 by 0;arc 1 2 by 0;keeps : arc = 0 or member = 0;");
        due(x.through(0), 3);
        due(x.through(3), -1);
        due(x.through(6), -1);
        due(x.through(4), -1);
        on("works cyclic 3 twist 0;places 2;arc 0 0 by 0;arc 0 1 by 0;");
        due("a LINK to itself next to it", x.through(3), -1);
        due(x.through(0), 1);
    }

    private static void bound() {
        says("BOUND by trees for degree d (2 to 9) and length g (3 to 12); promise 30: -3: d, g");
        for (int d = 2; d <= 9; d++) {
            for (int g = 3; g <= 12; g++) {
                long sum = 0;
                for (int i = 0; i <= (g % 2 == 1 ? (g - 3) / 2 : g / 2 - 1); i++) sum += Math.round(Math.pow(d - 1, i));
                due("bound(" + d + ", " + g + ")", x.bound(d, g), g % 2 == 1 ? 1 + d * sum : 2 * sum);
            }
        }
        due(x.bound(2, 3), 3);
        due(x.bound(9, 12), 74898);
        due(x.bound(9, 3), 10);
        due(x.bound(2, 12), 12);
        for (int d : new int[] {1, 0, -1, 10, 11, BELOW, BEYOND}) for (int g : new int[] {2, 3, 12, 13}) due("bound(" + d + ", " + g + ")", x.bound(d, g), -3);
        for (int g : new int[] {2, 1, 0, -1, 13, 14, BELOW, BEYOND}) for (int d : new int[] {1, 2, 9, 10}) due("bound(" + d + ", " + g + ")", x.bound(d, g), -3);
    }

    private static void excess() {
        says("Promise 31: by how many NODES THE NETWORK passes the BOUND; the least and the greatest DEGREE, GIRTH");
        on("works cyclic 3 twist 0;arc 0 0 by 1;");
        due("2 and 3", x.excess(), 0);
        on("works cyclic 3 twist 0;places 5;arc 0 0 by 1;arc 1 1 by 1;arc 2 2 by 1;arc 3 3 by 1;arc 4 4 by 1;");
        due("2 and 3", x.excess(), 12);
        on("works cyclic 12 twist 0;arc 0 0 by 1;");
        due("2 and 12", x.excess(), 0);
        String many = "works cyclic 12 twist 0;arc 0 0 by 1;arc 0 0 by 2;arc 0 0 by 3;arc 0 0 by 4;";
        on(many + "half 0 by 6;");
        due("9 and 3", x.excess(), 12 - 10);
        says("Promise 31: NONE: DEGREES are unlike");
        on(LINE);
        due(x.excess(), -1);
        on("works cyclic 3 twist 0;places 2;arc 0 0 by 1;");
        due(x.excess(), -1);
        says("Promise 31: NONE: the DEGREE isn't one BOUNDS are for");
        due("0", x.excess(), -1);
        on(LINK);
        due("1", x.excess(), -1);
        on(many + "arc 0 0 by 5;");
        due(x.regular(), 10);
        due(x.girth(), 3);
        due("10", x.excess(), -1);
        says("Promise 31: NONE: the GIRTH isn't one BOUNDS are for (or none)");
        on(LOOP);
        due("1", x.excess(), -1);
        on(PAIR);
        due("2", x.excess(), -1);
        on(HEAWOOD);
        x.cut(2);
        due(x.regular(), 2);
        due("14", x.excess(), -1);
        on(RING);
        due("60", x.excess(), -1);
    }

    private static void light() {
        says("Promise 32: the least weight of a way; NONE: there is no way");
        due("itself", x.light(0, 0), 0);
        on(LOOP + "weighs : 9;");
        due("itself, by no LINK", x.light(0, 0), 0);
        on(LINE + "weighs : 99;");
        due("the heaviest there can be", x.light(0, 59), 59 * 99);
        due(x.light(59, 0), 59 * 99);
        on(LINE + "weighs : 0;");
        due("the lightest", x.light(0, 59), 59);
        on(BARE);
        due(x.light(0, 59), -1);
        on("works cyclic 4 twist 0;arc 0 0 by 1;arc 0 0 by 2;keeps : arc = 0 and member < 3 or arc = 1 and member = 0;weighs : 1 + arc * 50;");
        due("a way by more LINKS can weigh less", x.light(0, 3), 3);
        due(x.light(0, 2), 2);
        due(x.light(3, 0), 3);
        on("works cyclic 5 twist 0;arc 0 0 by 4;arc 0 0 by 2;keeps : arc = 0 and member > 0 or arc = 1 and member = 2;weighs : 1 + arc * 50;");
        due("and from the other end on", x.light(4, 0), 4);
        due(x.light(4, 2), 2);
        on("works cyclic 2 twist 0;arc 0 0 by 1;arc 0 0 by 1;weighs : 40 - arc * 10 - member * 5;");
        due("of several LINKS the lightest", x.light(0, 1), 25);
    }

    private static void lightest() {
        says("Promise 33: the least weight of a RING; NONE: there is none");
        due(x.lightest(), -1);
        on(LINE + "weighs : 99;");
        due(x.lightest(), -1);
        on(LINK);
        due("one LINK there and back is none", x.lightest(), -1);
        on(RING + "weighs : 99;");
        due("the heaviest there can be", x.lightest(), 60 * 99);
        on(LOOP);
        due("the lightest there can be", x.lightest(), 1);
        on(LOOP + "weighs : 100;");
        due(x.lightest(), 99);
        on(PAIR + "weighs : member * 7 + 3;");
        due(x.lightest(), 13);
        on("works cyclic 6 twist 0;places 2;arc 0 0 by 1;arc 1 1 by 3;weighs : 2 + arc * 5;");
        due("one of six by 2 is lighter than one of two by 7", x.lightest(), 12);
    }
}
