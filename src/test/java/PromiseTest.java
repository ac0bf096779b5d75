/** Each promise of the document by answers that are worked out by hand: ordinary inputs, edges, refusals. */
public final class PromiseTest extends Bench {
    private static final String PETERSEN = "works cyclic 5 twist 2;places 2;arc 0 0 by 1;arc 0 1 by 0;arc 1 1 by 2;";
    private static final String HEAWOOD = "works cyclic 7 twist 0;places 2;arc 0 1 by 0;arc 0 1 by 1;arc 0 1 by 3;";
    private static final String HEXAGON = "works mirrors 3 twist 1;half 0 by 3;half 0 by 4;";
    private static final String K33 = "works cyclic 3 twist 0;places 2;arc 0 1 by 0;arc 0 1 by 1;arc 0 1 by 2;";
    private static final String WEIGHTS = "works cyclic 3 twist 4;arc 0 0 by 1;arc 0 0 by 1;weighs : arc * 50 + member * 10 + twist;";

    private static int promise = 0;

    private static void nextPromise() {
        promise++;
        says("promise " + promise);
    }

    public static void main(String[] args) {
        works();
        laws();
        group();
        deeds();
        network();
        rings();
        walks();
        search();
        weighed();
        chances();
        traysAndImages();
        due("promises", promise, 49);
        end();
    }

    private static void works() {
        nextPromise(); // 1
        int[] counts = {1, 0, 1, 0, 1, 0, 0, 0, 0, 0};
        for (int i = 0; i < 10; i++) due("count(" + i + ")", x.count(i), counts[i]);
        due(x.fault(0), 0);
        due(x.fault(1), -1);
        due(x.girth(), -1);
        due(x.degree(0), 0);

        nextPromise(); // 2
        for (int i = 1; i <= 45; i++) due(x.feed(1, -1, Integer.MIN_VALUE, i, 0), 20 * i);
        due(x.feed(0, 0, 0, 0, 0), -5);
        due(x.count(8), 900);
        x = new CageLift();
        // works cyclic 2 twist 7;
        x.feed(0x776f726b, 0x73206379, 0x636c6963, 0x20322074, 0x77697374);
        x.feed(0x20373b20, 0, 0, 0, 0);
        due(x.works(23), 1);
        due(x.count(2), 2);
        due(x.count(3), 7);

        nextPromise(); // 3
        due(tell(PETERSEN), 5);
        due(x.count(8), 0);
        due(x.count(9), 5);
        x.cut(1);
        x.twist(9);
        due(tell("works cyclic 3"), -32);
        due(x.count(8), 0);
        due(x.count(9), 5);
        due(x.count(2), 5);
        due(x.count(3), 9);
        due(x.count(6), 2);
        due(x.count(7), 2);
        lay(HEAWOOD);
        int taped = x.count(8);
        due(x.works(-1), -3);
        due(x.works(taped + 1), -3);
        due(x.count(8), taped);
        due(x.count(4), 10);
        due(x.works(HEAWOOD.length()), 5);
        due(x.count(4), 14);
        due(x.count(6), 0);
        due(x.count(7), 0);
        due(x.count(3), 0);
        due(x.works(0), -32);
        due(x.fault(1), 0);
        texts();

        nextPromise(); // 4
        due(x.fault(0), 0);
        due(x.fault(1), -1);
        due(x.fault(2), -1);
        due(x.fault(-1), -1);
        faulty("works cyclic 3 twist 0;arc 0 0 by 5;", 3, 34);
        due(x.works(1), -3);
        due(x.fault(0), 3);
        due(x.fault(1), 34);
        good(K33, 5);

        nextPromise(); // 5
        on("works mirrors 2 twist 0;places 3;arc 1 2 by 3;half 2 by 1;");
        int[] arc = {1, 2, 3, 0, 0};
        int[] half = {2, 2, 1, 1, 0};
        for (int i = 0; i < 5; i++) due("arc(0, " + i + ")", x.arc(0, i), arc[i]);
        for (int i = 0; i < 5; i++) due("arc(1, " + i + ")", x.arc(1, i), half[i]);
        x.cut(1);
        x.turn(0, 2);
        due(x.arc(1, 4), 1);
        due(x.arc(0, 4), 0);
        due(x.arc(0, 2), 2);
        due(x.arc(2, 0), -2);
        due(x.arc(-1, 0), -2);
        due(x.arc(0, 5), -2);
        due(x.arc(0, -1), -2);
    }

    private static void texts() {
        x = new CageLift();
        String head = "works cyclic 4 twist 0;";
        good("\n works\ncyclic 4twist 0;places 5 ;arc 4 0by 3;half 1 by 2 ;\n ", 4);
        due(x.count(0), 5);
        due(x.arc(0, 0), 4);
        good("works cyclic 012 twist 009;", 1);
        good("works product 3 4 twist 0;", 1);
        good("works product 12 1 twist 0;", 1);
        good("works mirrors 6 twist 0;half 0 by 6;", 2);
        faulty("", 2, 0);
        faulty("  \n", 2, 3);
        faulty("works cyclic 4 twist 0 ", 2, 23);
        faulty("workscyclic 4 twist 0;", 2, 0);
        faulty("works cyclic 0004 twist 0;", 1, 13);
        faulty("works cyclic 0 twist #", 3, 13);
        faulty("Works cyclic 4 twist 0;", 1, 0);
        faulty("works cyclic 4\ttwist 0;", 1, 14);
        faulty("works cyclic 4 twist 0;\u00e9", 1, 23);
        faulty(head + ";", 2, 23);
        faulty("works cyclic 4 twist 10;", 3, 21);
        good(head + "places 1;", 2);
        faulty(head + "places 6;", 3, 30);
        faulty(head + "arc 1 0 by 0;", 3, 27);
        faulty(head + "arc 0 1 by 0;", 3, 29);
        faulty(head + "places 3;arc 2 3 by 0;", 3, 38);
        faulty(head + "arc 0 0 by 4;", 3, 34);
        faulty(head + "arcz 0 0 by 1;", 2, 23);
        faulty(head + "keeps : 1 = 1 and 2;", 2, 42);
        faulty(head + "keeps : 1 = 1 or [2 = 2;", 2, 46);
        faulty(head + "weighs : 1 + * 2;", 2, 36);
        faulty(head + "weighs : 2 * + 2;", 2, 36);
        faulty(head + "arc 0 0 by 1000;", 1, 34);
        faulty(head + "arc 0 0 by 1 2000;", 1, 36);
        faulty(head + "arc 0 0 by 1 20;", 2, 36);
        faulty(head + "arc 0 0 by 1", 2, 35);
        faulty(head + "half 0 0 by 2;", 2, 30);
        faulty(head + "half 0 by 4;", 3, 33);
        faulty(head + "half 0 by 3;", 3, 33);
        faulty(head + "half 1 by 2;", 3, 28);
        faulty(head + "half 0 by 2;places 2;", 2, 35);
        faulty(head + "places 2;places 1000;", 2, 32);
        faulty("works product 2 7 twist 0;", 3, 16);
        faulty("works product 0 7 twist 0;", 3, 14);
        faulty("works product 2 0 twist 0;", 3, 16);
        faulty("works quaternions 8 twist 0;", 2, 18);
        faulty("works mirrors 0 twist 0;", 3, 14);
        faulty("works cyclic four twist 0;", 2, 13);
        faulty(head + "keeps = 1 = 1;", 2, 29);
        faulty(head + "keeps : 1 = 1 = 1;", 2, 37);
        faulty(head + "keeps : (1 = 1);", 2, 34);
        faulty(head + "keeps : [1] = 1;", 2, 33);
        faulty(head + "weighs : 1 = 1;", 2, 34);
        faulty(head + "weighs : -1;", 2, 32);
        faulty(head + "weighs : if 1 = 1 then 2 end;", 2, 48);
        faulty(head + "weighs : if 1 then 2 else 3 end;", 2, 37);
        faulty(head + "weighs : by;", 2, 32);
        String twelve = "half 0 by 2;arc 0 0 by 1;".repeat(6);
        good(head + twelve, 13);
        faulty(head + twelve + "half x", 4, 173);
        faulty(head + twelve + "arc 9 9 by 9;", 4, 173);
        faulty(head + twelve + "arcs 0 0 by 0;", 2, 173);
        good(head + "keeps : not not not not not not 1 = 1;", 2);
        faulty(head + "keeps : not not not not not not not 1 = 1;", 4, 55);
        faulty(head + "keeps : not not not not not not [ 1 = 1 ];", 4, 55);
        faulty(head + "keeps : not not not not not not (1) = 1;", 4, 55);
        good(head + "keeps : [[[(((1))) = 1]]];", 2);
        faulty(head + "keeps : [[[((((1)))) = 1]]];", 4, 37);
        good(head + "keeps : [[[[[1 = 1]]]]] and [[[[[1 = 1]]]]];", 2);
        faulty(head + "keeps : [[[[[[1 + if 1 = 1 then 1 else 1 end = 1]]]]]];", 4, 41);
        faulty(head + "keeps : [[[[[[1 + 1000 = 1]]]]]];", 1, 41);
        faulty(head + "keeps : [[[[[[1 ( = 1]]]]]];", 2, 39);
    }

    /** What the laws tell, seen by which links are kept and what they weigh. */
    private static void laws() {
        CageLift kept = x;
        String head = "works cyclic 4 twist 3;places 2;arc 0 1 by 1;arc 1 0 by 2;";
        String[] truths = {"1 = 1", "1 = 2", "member < 2", "arc = 1", "from > to", "to > from or member = 0", "not member = 0",
            "twist = 3 and member > 0 and arc = 0", "not [ arc = 0 or member = 1 ]", "member = 0 or member = 1 and arc = 1",
            "member - 1 - 1 = 1", "member + 2 * 2 = 6", "999 * 999 * 999 = 1000 * 1000", "999 * 999 * 2 = 999 * 999 * 3",
            "0 - 999 * 999 * 2 < 0 - 999 * 999", "if arc = 0 then member else 9 end = 2"};
        int[] links = {8, 0, 4, 4, 4, 5, 6, 3, 3, 3, 2, 2, -1, 8, 8, 1};
        for (int i = 0; i < truths.length; i++) {
            String text = head + "keeps : " + truths[i] + ";";
            x = new CageLift();
            if (links[i] < 0) {
                due(text, tell(text), -31);
            } else {
                due(text, tell(text), 5);
                due("links of " + text, x.count(5), links[i]);
            }
        }
        on("works cyclic 4 twist 3;keeps : 1 = 2;arc 0 0 by 1;keeps : member > 0;");
        due(x.count(5), 3);
        due(x.joins(0, 1), 0);
        on("works cyclic 4 twist 3;keeps : member > 1;half 0 by 2;");
        due("a half's member is the less one", x.count(5), 0);
        String[] sums = {"0", "0 - 5", "100", "99", "twist", "if twist > 3 then 1 else 7 + twist * 2 end", "(2 + 3) * (4 - 1)", "999 * 999 * 999 - 999 * 999 - 960"};
        int[] weights = {1, 1, 99, 99, 3, 13, 15, 99};
        for (int i = 0; i < sums.length; i++) {
            on("works cyclic 2 twist 3;half 0 by 1;weighs : 50;weighs : " + sums[i] + ";");
            due("weight " + sums[i], x.light(0, 1), weights[i]);
        }
        on("works cyclic 2 twist 3;half 0 by 1;weighs : 999 * 999 * 999 - 999 * 999 - 999 - 950;");
        due("kept at a million", x.light(0, 1), 50);
        on("works cyclic 2 twist 3;half 0 by 1;weighs : 0 - 999 * 999 * 999 + 999 * 999 + 999 + 999 + 39;");
        due("kept at a million below", x.light(0, 1), 38);
        x = kept;
    }

    private static void group() {
        nextPromise(); // 6
        on("works cyclic 12 twist 0;");
        due(x.product(7, 8), 3);
        due(x.product(12, 0), -2);
        due(x.product(0, -1), -2);
        on("works mirrors 4 twist 0;");
        due(x.product(3, 2), 1);
        due(x.product(3, 6), 5);
        due(x.product(6, 3), 7);
        due(x.product(5, 7), 2);
        due(x.product(7, 5), 2);
        due(x.product(4, 5), 3);
        on("works product 3 4 twist 0;");
        due(x.product(7, 10), 1);
        on("works product 1 5 twist 0;");
        due(x.product(3, 4), 2);
        on("works mirrors 1 twist 0;");
        due(x.product(1, 1), 0);
        on("works quaternions twist 0;");
        int[][] table = {{0, 1, 2, 3}, {1, 4, 3, 6}, {2, 7, 4, 1}, {3, 2, 5, 4}};
        for (int i = 0; i < 4; i++) {
            for (int j = 0; j < 4; j++) {
                due("product(" + i + ", " + j + ")", x.product(i, j), table[i][j]);
                due("product(" + i + ", -" + j + ")", x.product(i, j + 4), (table[i][j] + 4) % 8);
                due("product(-" + i + ", -" + j + ")", x.product(i + 4, j + 4), table[i][j]);
            }
        }
        due(x.product(8, 0), -2);

        nextPromise(); // 7
        due(x.inverse(0), 0);
        due(x.inverse(1), -2);
        on("works mirrors 5 twist 0;");
        due(x.inverse(2), 3);
        due(x.inverse(7), 7);
        due(x.inverse(10), -2);
        due(x.inverse(-1), -2);
        on("works quaternions twist 0;");
        due(x.inverse(2), 6);
        due(x.inverse(4), 4);

        nextPromise(); // 8
        on("works cyclic 12 twist 0;");
        int[] orders = {1, 12, 6, 4, 3, 12, 2, 12, 3, 4, 6, 12, -2};
        for (int i = 0; i < 13; i++) due("orderOf(" + i + ")", x.orderOf(i), orders[i]);
        due(x.orderOf(-1), -2);
        on("works product 2 6 twist 0;");
        due(x.orderOf(6), 2);
        due(x.orderOf(7), 6);
        due(x.orderOf(8), 6);
        on("works quaternions twist 0;");
        due(x.orderOf(4), 2);
        due(x.orderOf(7), 4);

        nextPromise(); // 9
        due(x.centre(), 1);
        on("works mirrors 6 twist 0;");
        due(x.centre(), 2);
        on("works mirrors 5 twist 0;");
        due(x.centre(), 1);
        on("works mirrors 2 twist 0;");
        due(x.centre(), 4);
        on("works quaternions twist 0;");
        due(x.centre(), 2);
        on("works product 3 4 twist 0;");
        due(x.centre(), 12);
    }

    private static void deeds() {
        nextPromise(); // 10
        on("works mirrors 3 twist 1;arc 0 0 by 2;half 0 by 4;");
        due(x.turn(0, 5), 2);
        due(x.turn(0, 5), 5);
        due(x.count(7), 2);
        due(x.arc(0, 2), 5);
        due(x.turn(1, 3), 4);
        due(x.turn(1, 0), -12);
        due(x.turn(1, 2), -12);
        due(x.turn(1, 6), -11);
        due(x.turn(0, 6), -11);
        due(x.turn(0, -1), -11);
        due(x.turn(2, 0), -11);
        due(x.turn(-1, 0), -11);
        due(x.count(7), 3);
        due(x.arc(1, 2), 3);

        nextPromise(); // 11
        on(PETERSEN);
        due(x.cut(1), 1);
        due(x.count(5), 10);
        due(x.count(6), 2);
        due(x.cut(2), 1);
        due(x.count(6), 6);
        due(x.cut(1), 0);
        due(x.count(5), 10);
        due(x.cut(3), -11);
        due(x.cut(-1), -11);
        due(x.count(7), 3);

        nextPromise(); // 12
        due(x.twist(9), 0);
        due(x.twist(0), 9);
        due(x.twist(0), 0);
        due(x.twist(-1), -11);
        due(x.twist(10), -11);
        due(x.count(7), 3);
        on("works cyclic 3 twist 6;arc 0 0 by 1;keeps : member < twist;");
        due(x.twist(2), 6);
        due(x.count(3), 2);
        due(x.count(5), 2);

        nextPromise(); // 13
        due(x.undo(1), -3);
        on("works cyclic 12 twist 0;arc 0 0 by 0;");
        for (int i = 1; i <= 11; i++) x.turn(0, i);
        due(x.count(7), 10);
        due(x.undo(0), -3);
        due(x.undo(11), -3);
        due(x.undo(3), 7);
        due(x.arc(0, 2), 8);
        due(x.undo(8), -3);
        x.cut(0);
        x.twist(5);
        due(x.undo(2), 7);
        due(x.count(6), 0);
        due(x.count(3), 0);
        due(x.undo(7), 0);
        due(x.arc(0, 2), 1);
        due(x.undo(1), -3);
        on(PETERSEN);
        tray(0, 2, 15, 100, 1204);
        due(x.perform(0), 3);
        due(x.undo(1), 0);
        due(x.count(3), 2);
        due(x.count(6), 0);
        due(x.arc(2, 2), 2);
        due(x.girth(), 5);

        nextPromise(); // 14
        on(HEXAGON);
        due(x.judge(0, 0), -6);
        due(x.judge(4, 0), -2);
        due(x.judge(-1, 0), -2);
        due(x.judge(0, 4), -2);
        due(x.judge(0, -1), -2);
        tray(0, 1, 19, 1004, 101, 1000, 100);
        int[] half = {3, 2, -1, 3};
        for (int i = 0; i < 4; i++) due("judge(0, " + i + ")", x.judge(0, i), half[i]);
        tray(0, 1, 1004, 111);
        int[] noArc = {1, 1, 2, 6};
        for (int i = 0; i < 4; i++) due("judge(0, " + i + ")", x.judge(0, i), noArc[i]);
        tray(0, 1);
        int[] none = {-1, 0, 6, 6};
        for (int i = 0; i < 4; i++) due("judge(0, " + i + ")", x.judge(0, i), none[i]);
        long[] cant = {9, 20, 99, 112, 102, 999, 2200, 1006, 1200, -10, 0};
        for (long v : cant) {
            tray(0, 3, v);
            due("judge of " + v, x.judge(0, 0), 0);
            due("why of " + v, x.judge(0, 1), 1);
        }
        tray(0, 3, (1L << 32) + 10);
        due(x.judge(0, 0), 0);
        due(x.count(7), 0);
        due(x.girth(), 6);

        nextPromise(); // 15
        on(HEXAGON);
        due(x.perform(0), -6);
        due(x.perform(4), -2);
        due(x.perform(-1), -2);
        tray(1, 1);
        due(x.perform(1), 0);
        due(x.count(7), 0);
        tray(1, 1, 1002, 10);
        due(x.perform(1), 0);
        due(x.count(7), 0);
        due(x.count(3), 1);
        tray(1, 1, 19, 101, 1004, 1102, 10);
        due(x.perform(1), 3);
        due(x.count(7), 1);
        due(x.count(3), 9);
        due(x.count(6), 2);
        due(x.arc(0, 2), 4);

        nextPromise(); // 16
        on(PETERSEN);
        due(x.day(1, 0), -3);
        due(x.day(1, 41), -3);
        int once = x.day(1, 1);
        due(once == 0 || once == 1 ? 1 : 0, 1);
        on(PETERSEN);
        int seed = 77;
        int times = 40;
        int many = 0;
        int s = seed;
        int[] volts = {1, 0, 2};
        int out = 0;
        int twist = 2;
        for (int i = 0; i < times; i++) {
            s = s * 1103515245 + 12345;
            int kind = (s >>> 16) % 4;
            s = s * 1103515245 + 12345;
            int v = s >>> 16;
            if (kind == 0) {
                twist = v % 10;
                many++;
            } else if (kind == 1) {
                if (v % 12 < 3) {
                    out ^= 1 << v % 12;
                    many++;
                }
            } else {
                s = s * 1103515245 + 12345;
                int g = (s >>> 16) % 12;
                if (v % 12 < 3 && g < 5) {
                    volts[v % 12] = g;
                    many++;
                }
            }
        }
        due(x.day(seed, times), many);
        due(x.count(3), twist);
        due(x.count(6), out);
        for (int i = 0; i < 3; i++) due("arc(" + i + ", 2)", x.arc(i, 2), volts[i]);
        due(x.count(7), 1);
        due(x.undo(1), 0);
        due(x.girth(), 5);
        x = new CageLift();
        int held = 0;
        for (int i = 0; i < 40; i++) held = Math.min(10, held + (x.day(i, 1) > 0 ? 1 : 0));
        due("a day without a deed isn't held", x.count(7), held);
    }

    private static void network() {
        nextPromise(); // 17
        on("works cyclic 2 twist 0;places 2;arc 0 0 by 0;arc 0 0 by 0;arc 0 1 by 1;arc 1 0 by 1;arc 1 1 by 1;half 1 by 1;");
        due(x.joins(0, 0), 2);
        due(x.joins(0, 3), 2);
        due(x.joins(3, 0), 2);
        due(x.joins(0, 2), 0);
        due(x.joins(2, 3), 3);
        due(x.joins(2, 2), 0);
        due(x.joins(4, 0), -2);
        due(x.joins(0, 4), -2);
        due(x.joins(-1, 0), -2);

        nextPromise(); // 18
        due(x.degree(0), 0);
        on("works cyclic 2 twist 0;places 2;arc 0 0 by 0;arc 0 0 by 0;arc 0 1 by 1;arc 1 0 by 1;arc 1 1 by 1;half 1 by 1;");
        due(x.degree(0), 6);
        due(x.degree(2), 5);
        due(x.degree(4), -2);
        due(x.degree(-1), -2);

        nextPromise(); // 19
        on("works cyclic 3 twist 0;places 2;arc 1 0 by 1;arc 0 1 by 0;arc 0 0 by 0;arc 0 1 by 0;arc 0 0 by 1;");
        due(x.neighbour(0, 0), 1);
        due(x.neighbour(0, 1), 2);
        due(x.neighbour(0, 2), 3);
        due(x.neighbour(0, 3), 5);
        due(x.neighbour(0, 4), -1);
        due(x.neighbour(0, -1), -3);
        due(x.neighbour(6, -1), -2);
        due(x.neighbour(-1, 0), -2);

        nextPromise(); // 20
        due(x.regular(), 0);
        on(HEAWOOD);
        due(x.regular(), 3);
        on(HEAWOOD + "arc 0 0 by 1;");
        due(x.regular(), -1);
        on("works cyclic 3 twist 0;arc 0 0 by 1;keeps : member = 0;");
        due(x.regular(), -1);

        nextPromise(); // 21
        due(x.parts(), 1);
        on("works cyclic 12 twist 0;places 2;arc 0 0 by 8;");
        due(x.parts(), 16);
        on(PETERSEN);
        due(x.parts(), 1);
        x.cut(1);
        due(x.parts(), 2);

        nextPromise(); // 22
        due(x.twoColours(), 1);
        on(HEAWOOD);
        due(x.twoColours(), 1);
        x.twist(3);
        on(PETERSEN);
        due(x.twoColours(), 0);
        on("works cyclic 3 twist 0;places 2;arc 0 1 by 0;arc 1 1 by 0;");
        due(x.twoColours(), 0);
        on("works cyclic 6 twist 0;places 2;arc 0 0 by 1;arc 1 1 by 2;");
        due(x.twoColours(), 0);

        nextPromise(); // 23
        on("works cyclic 12 twist 0;places 2;arc 0 0 by 1;");
        due(x.far(0, 6), 6);
        due(x.far(1, 11), 2);
        due(x.far(3, 3), 0);
        due(x.far(0, 12), -1);
        due(x.far(24, 0), -2);
        due(x.far(0, 24), -2);
        due(x.far(-1, 0), -2);

        nextPromise(); // 24
        due(x.diameter(), 0);
        on(HEAWOOD);
        due(x.diameter(), 3);
        x.cut(0);
        due(x.diameter(), 7);
        x.cut(1);
        due(x.diameter(), -1);

        nextPromise(); // 25
        on(HEAWOOD);
        due(x.ball(0, 0), 1);
        due(x.ball(0, 1), 4);
        due(x.ball(13, 2), 10);
        due(x.ball(0, 3), 14);
        due(x.ball(0, 99), 14);
        due(x.ball(0, 100), -3);
        due(x.ball(0, -1), -3);
        due(x.ball(14, -1), -2);
        due(x.ball(-1, 0), -2);
    }

    private static void rings() {
        nextPromise(); // 26
        due(x.girth(), -1);
        on(HEAWOOD);
        due(x.girth(), 6);
        x.cut(2);
        due(x.girth(), 14);
        x.cut(1);
        due(x.girth(), -1);
        on("works cyclic 12 twist 0;places 5;arc 0 1 by 0;arc 1 2 by 0;arc 2 3 by 0;arc 3 4 by 0;arc 4 0 by 1;");
        due(x.girth(), 60);
        on("works cyclic 4 twist 0;arc 0 0 by 2;");
        due(x.girth(), 2);
        on("works cyclic 4 twist 0;half 0 by 2;");
        due(x.girth(), -1);
        on("works cyclic 4 twist 0;places 2;arc 0 0 by 1;arc 1 1 by 0;");
        due(x.girth(), 1);

        nextPromise(); // 27
        due(x.ring(0), -1);
        due(x.ring(-1), -3);
        on(PETERSEN);
        x.cut(0);
        due(x.ring(0), 5);
        due(x.ring(1), 7);
        due(x.ring(2), 9);
        due(x.ring(3), 6);
        due(x.ring(4), 8);
        due(x.ring(5), -1);
        due(x.ring(Integer.MAX_VALUE), -1);
        on(K33);
        int[] square = {0, 3, 1, 4, -1};
        for (int i = 0; i < 5; i++) due("ring(" + i + ")", x.ring(i), square[i]);
        on("works cyclic 6 twist 0;places 2;arc 1 1 by 0;keeps : member > 3;");
        due(x.ring(0), 10);
        due(x.ring(1), -1);
        on("works cyclic 6 twist 0;places 2;arc 0 1 by 1;arc 0 1 by 1;keeps : member > 2;");
        due(x.ring(0), 3);
        due(x.ring(1), 10);
        due(x.ring(2), -1);
        due(x.ring(-1), -3);
        on("works cyclic 12 twist 0;places 5;arc 0 1 by 0;arc 1 2 by 0;arc 2 3 by 0;arc 3 4 by 0;arc 4 0 by 1;");
        due(x.ring(1), 12);
        due(x.ring(5), 1);
        due(x.ring(59), 59);
        due(x.ring(60), -1);

        nextPromise(); // 28
        due(x.rings(0), -3);
        due(x.rings(7), -3);
        due(x.rings(1), 0);
        on("works cyclic 5 twist 0;arc 0 0 by 1;arc 0 0 by 2;");
        int[] five = {0, 0, 10, 15, 12, 0};
        for (int i = 1; i <= 6; i++) due("K5 rings(" + i + ")", x.rings(i), five[i - 1]);
        on(K33);
        int[] six = {0, 0, 0, 9, 0, 6};
        for (int i = 1; i <= 6; i++) due("K33 rings(" + i + ")", x.rings(i), six[i - 1]);
        on(HEAWOOD);
        due(x.rings(6), 28);
        on("works cyclic 3 twist 0;arc 0 0 by 0;arc 0 0 by 1;arc 0 0 by 1;arc 0 0 by 2;");
        int[] triple = {3, 9, 27, 0, 0, 0};
        for (int i = 1; i <= 6; i++) due("triple rings(" + i + ")", x.rings(i), triple[i - 1]);
        StringBuilder twelve = new StringBuilder("works cyclic 12 twist 0;places 2;");
        for (int i = 0; i < 12; i++) twelve.append("arc 0 1 by ").append(i).append(';');
        on(twelve.toString());
        due(x.rings(4), 4356);
        due(x.rings(5), 0);
        due(x.rings(6), 290400);
        StringBuilder all = new StringBuilder("works mirrors 6 twist 0;");
        for (int i = 0; i < 12; i++) all.append("arc 0 0 by ").append(i).append(';');
        on(all.toString());
        due(x.rings(1), 12);
        due(x.rings(2), 66);
        due(x.rings(3), 220 * 8);
        due(x.rings(6), 55440 * 64);

        nextPromise(); // 29
        due(x.through(0), -1);
        due(x.through(1), -2);
        due(x.through(-1), -2);
        on("works cyclic 5 twist 0;places 3;arc 0 0 by 1;arc 0 1 by 0;arc 1 2 by 0;arc 2 2 by 0;");
        due(x.through(0), 5);
        due(x.through(5), -1);
        due(x.through(10), 1);
        due(x.through(15), -2);
        on("works cyclic 4 twist 0;places 2;arc 0 0 by 1;arc 0 1 by 0;arc 1 1 by 2;");
        due(x.through(0), 4);
        due(x.through(4), 2);

        nextPromise(); // 30
        due(x.bound(3, 3), 4);
        due(x.bound(3, 4), 6);
        due(x.bound(3, 7), 22);
        due(x.bound(3, 8), 30);
        due(x.bound(2, 12), 12);
        due(x.bound(2, 11), 11);
        due(x.bound(9, 11), 1 + 9 * (1 + 8 + 64 + 512 + 4096));
        due(x.bound(4, 5), 17);
        due(x.bound(1, 5), -3);
        due(x.bound(10, 5), -3);
        due(x.bound(3, 2), -3);
        due(x.bound(3, 13), -3);

        nextPromise(); // 31
        due(x.excess(), -1);
        on(HEAWOOD);
        due(x.excess(), 0);
        x.cut(2);
        due("a ring of 14 has no bound", x.excess(), -1);
        on("works cyclic 8 twist 0;places 2;arc 0 0 by 1;arc 0 1 by 0;arc 1 1 by 3;");
        due(x.excess(), 2);
        on("works cyclic 4 twist 0;places 2;arc 0 0 by 2;");
        due(x.excess(), -1);
        on("works cyclic 4 twist 0;arc 0 0 by 2;");
        due("a ring of 2 has no bound", x.excess(), -1);
        on("works cyclic 6 twist 0;places 2;arc 0 0 by 2;arc 1 1 by 2;");
        due(x.excess(), 9);

        nextPromise(); // 32
        on("works cyclic 6 twist 9;places 2;arc 0 0 by 1;weighs : if member = 0 then 90 + twist else member end;");
        due(x.light(0, 1), 2 + 3 + 4 + 5 + 1);
        due(x.light(1, 0), 15);
        due(x.light(0, 5), 5);
        due(x.light(4, 4), 0);
        due(x.light(0, 6), -1);
        due(x.light(12, 0), -2);
        due(x.light(0, 12), -2);
        due(x.light(-1, 0), -2);
        on(WEIGHTS);
        due(x.light(0, 1), 4);
        due(x.light(0, 2), 4 + 14);
        x.cut(0);
        due(x.light(0, 1), 54);
        x.twist(9);
        due(x.light(0, 1), 59);

        nextPromise(); // 33
        due(x.lightest(), -1);
        on(WEIGHTS);
        due(x.lightest(), 4 + 14 + 24);
        x.cut(1);
        due(x.lightest(), 42);
        x.cut(0);
        due(x.lightest(), -1);
        x.cut(1);
        due(x.lightest(), 54 + 64 + 74);
        on("works cyclic 3 twist 0;arc 0 0 by 1;arc 0 0 by 2;weighs : 1 + arc * member * 90;");
        due("two links of two nodes", x.lightest(), 2);
        on("works cyclic 3 twist 0;arc 0 0 by 1;arc 0 0 by 0;weighs : 1 + arc * (member + 1);");
        due("a link to itself", x.lightest(), 2);
    }

    private static void walks() {
        nextPromise(); // 34
        on("works mirrors 3 twist 0;places 2;arc 0 1 by 1;half 1 by 3;arc 1 0 by 4;keeps : 1 = 2;");
        due(x.walk(4), -2);
        due(x.walk(-1), -2);
        due(x.walk(0), -6);
        tray(0, 0);
        due(x.walk(0), -4);
        tray(0, 0, 0, 2, 1, 0, 3, 4);
        // turn 1, mirror 0, turn -1, turn 1, mirror 0, mirror 1
        due(x.walk(0), x.product(1, 4));
        x.cut(0);
        due(x.walk(0), x.product(1, 4));
        tray(0, 0, 0, 0);
        due(x.walk(0), -3);
        tray(0, 0, 5, 1);
        due("backward from 0 to 1, then on from 1 to 0", x.walk(0), x.product(4, 2));
        tray(0, 0, 6);
        due(x.walk(0), -3);
        tray(0, 0, -1);
        due(x.walk(0), -3);
        tray(0, 3, 1L << 32);
        due(x.walk(0), -3);
        tray(0, 0, 2, 2, 2, 2, 2, 2, 2, 2, 2, 2, 2, 2);
        due(x.walk(0), 0);
        tray(0, 0, 2, 2, 2, 2, 2, 2, 2, 2, 2, 2, 2, 2, 2);
        due(x.walk(0), -4);
        tray(0, 0, 2, 3);
        x.turn(1, 5);
        due(x.walk(0), 0);
        tray(0, 0, 3);
        due(x.walk(0), 5);

        nextPromise(); // 35
        on(PETERSEN);
        due(x.lifted(4), -2);
        due(x.lifted(3), -6);
        tray(3, 0);
        due(x.lifted(3), -4);
        tray(3, 0, 2, 2);
        due(x.lifted(3), -3);
        tray(3, 0, 2);
        due(x.lifted(3), -1);
        tray(3, 0, 2, 4, 3, 0);
        due(x.lifted(3), 20);
        tray(3, 0, 0, 1);
        due(x.lifted(3), 2);
        tray(3, 0, 0);
        due(x.lifted(3), 5);

        nextPromise(); // 36
        due(x.tune(0), -2);
        on(HEAWOOD);
        x.turn(2, 1);
        due(x.girth(), 2);
        due(x.tune(2), 3);
        due(x.tune(-1), -2);
        due(x.tune(3), -2);
        due(x.count(7), 1);
        due(x.arc(2, 2), 1);
        x.cut(2);
        due("a cut arc stays cut, so the first voltage", x.tune(2), 0);
        on("works mirrors 3 twist 0;half 0 by 5;half 0 by 5;");
        due(x.tune(0), 3);
        x.cut(1);
        x.cut(0);
        due("of a half only such of order 2", x.tune(0), 3);
        on("works cyclic 5 twist 0;places 2;arc 0 1 by 3;");
        due(x.tune(0), 0);

        nextPromise(); // 37
        due(x.tuned(0), -2);
        on(HEAWOOD);
        x.turn(2, 1);
        due(x.tuned(2), 6);
        due(x.tuned(3), -2);
        due(x.tuned(-1), -2);
        x.cut(2);
        due(x.tuned(2), 14);
        on("works cyclic 5 twist 0;places 2;arc 0 1 by 3;");
        due(x.tuned(0), -1);
    }

    private static void search() {
        nextPromise(); // 38
        due(x.search(3, 5, 10, 0), 1);
        due(x.search(3, 6, 14, 0), 1);
        due(x.search(3, 5, 8, 0), 0);
        due(x.search(3, 3, 5, 0), 0);
        due(x.search(2, 5, 5, 1), 6);
        due(x.search(2, 5, 5, 2), 0);
        due(x.search(2, 3, 2, 1), 2);
        due(x.search(2, 3, 2, 2), 1);
        due(x.search(3, 4, 11, 0), 2);
        due(x.search(3, 4, 11, 1), 5000);
        due(x.search(4, 6, 14, 0), 0);
        due(x.search(4, 6, 14, 1), 14);
        due(x.search(4, 6, 14, 2), 13);
        due(x.search(3, 3, 4, 0), 1);
        due(x.search(3, 3, 4, 1), 7);
        due(x.search(3, 3, 3, 1), 3);
        due(x.search(3, 4, 3, 1), 3);
        due(x.search(2, 4, 4, 1), 5);
        due(x.search(2, 3, 4, 1), 6);
        due(x.search(2, 3, 1, 0), 0);
        due(x.search(2, 3, 3, 3), -2);
        due(x.search(9, 3, 3, -1), -2);
        due(x.search(1, 3, 3, 0), -3);
        due(x.search(5, 3, 3, 0), -3);
        due(x.search(2, 2, 3, 0), -3);
        due(x.search(2, 9, 3, 0), -3);
        due(x.search(2, 3, 0, 0), -3);
        due(x.search(2, 3, 15, 0), -3);

        nextPromise(); // 39
        due(x.found(2, 3, 6, 0, 1), 1);
        due(x.found(2, 3, 6, 0, 2), 1);
        due(x.found(2, 3, 6, 1, 2), 1);
        due(x.found(2, 3, 6, 3, 5), 1);
        due(x.found(2, 3, 6, 2, 3), 0);
        due(x.found(2, 3, 6, 4, 4), 0);
        due(x.found(3, 5, 8, 0, 1), -1);
        due(x.found(3, 4, 11, 0, 1), -1);
        due(x.found(3, 5, 8, 0, 8), -3);
        due(x.found(3, 5, 8, 8, 0), -3);
        due(x.found(3, 5, 8, -1, 0), -3);
        due(x.found(3, 5, 8, 0, -1), -3);
        due(x.found(1, 5, 8, 0, 0), -3);
        due(x.found(3, 2, 8, 0, 0), -3);
        due(x.found(3, 5, 15, 0, 0), -3);
        int links = 0;
        for (int a = 0; a < 14; a++) for (int b = 0; b < a; b++) links += x.found(3, 6, 14, a, b);
        due(links, 21);
    }

    private static void weighed() {
        nextPromise(); // 40
        on("works mirrors 2 twist 0;half 0 by 2;arc 0 0 by 1;weighs : if arc = 0 then member + twist * 2 else if twist < 5 then 7 else 8 end end;keeps : 1 = 2;");
        due(x.twists(4), -2);
        due(x.twists(-1), -2);
        due(x.twists(0), -6);
        tray(0, 2);
        due(x.twists(0), -4);
        tray(0, 2, 10007);
        due(x.twists(0), 31);
        x.cut(1);
        due(x.twists(0), 31);
        tray(0, 2, 10308);
        due(x.twists(0), 31 << 5);
        tray(0, 2, 10307, 309);
        due(x.twists(0), 1 << 3);
        tray(0, 2, 10308, 309);
        due(x.twists(0), 0);
        tray(0, 2, 1);
        due("one at least", x.twists(0), 1);
        long[] cant = {-1, 0, 100, 401, 20001, 10400, 10500, 10000, 130001};
        for (long v : cant) {
            tray(0, 2, v);
            due("twists of " + v, x.twists(0), -3);
        }
        tray(0, 3, (1L << 32) + 10007);
        due(x.twists(0), -3);
        tray(0, 2, 10007, 10007, 10007, 10007, 10007, 10007, 10007, 10007);
        due(x.twists(0), 31);
        tray(0, 2, 10007, 10007, 10007, 10007, 10007, 10007, 10007, 10007, 0);
        due(x.twists(0), -4);

        nextPromise(); // 41
        on("works cyclic 3 twist 0;arc 0 0 by 2;arc 0 0 by 1;weighs : if arc = 0 then 7 else if member = 0 then 1 else member * twist end end;");
        due(x.weigh(4), -2);
        due(x.weigh(0), -6);
        tray(0, 2);
        due(x.weigh(0), -4);
        tray(0, 2, 0);
        due(x.weigh(0), -3);
        tray(0, 2, 7);
        // By member 1: twists 0 and 1 weigh 1; by member 2 all ten are told apart.
        due(x.twists(0), 1023);
        due(x.weigh(0), 102);
        tray(0, 2, 7, 10101);
        due(x.twists(0), 3);
        due(x.weigh(0), 102);
        tray(0, 2, 10103);
        due("one twist only: the first link", x.weigh(0), 0);
        tray(0, 2, 8);
        due(x.weigh(0), -1);
        on("works cyclic 3 twist 0;arc 0 0 by 2;arc 0 0 by 1;");
        tray(0, 2, 10101);
        due("all weigh the same: the first link", x.weigh(0), 0);
    }

    private static void chances() {
        nextPromise(); // 42
        due(x.chance(1, 0, 0), 1);
        due(x.chance(60, 2, 1), 1);
        due(x.chance(0, 3, 2), -2);
        due(x.chance(1, 0, -1), -2);
        due(x.chance(0, 0, 0), -3);
        due(x.chance(61, 0, 0), -3);
        due(x.chance(1, -1, 0), -3);
        due(x.chance(1, 3, 0), -3);
        on("works cyclic 4 twist 0;arc 0 0 by 0;arc 0 0 by 0;");
        // Rings are 1 long until both are turned: lots 0 1 and 1 0.
        due(x.chance(2, 0, 0), 0);
        due(x.chance(2, 0, 1), 1);
        due(x.chance(2, 1, 0), 0);
        due(x.chance(2, 2, 0), 1);
        due(x.chance(2, 2, 1), 50);
        due(x.chance(3, 2, 0), 0);
        due(x.chance(1, 2, 0), 1);
        on("works cyclic 8 twist 0;arc 0 0 by 1;half 0 by 4;");
        x.cut(1);
        due(x.chance(8, 1, 0), 9);
        due(x.chance(8, 1, 1), 10);
        due(x.chance(8, 2, 0), 41);
        due(x.chance(8, 2, 1), 50);
        StringBuilder twelve = new StringBuilder("works cyclic 2 twist 0;");
        for (int i = 0; i < 12; i++) twelve.append(i < 11 ? "half 0 by 1;" : "arc 0 0 by 0;");
        on(twelve.toString());
        due("arc 11 has no lot, halves aren't turned", x.chance(2, 2, 0), 0);
        on("works mirrors 3 twist 0;arc 0 0 by 3;");
        due("it times member 1: mirror 3 times turn 1", x.chance(2, 2, 0), 1);
        due(x.chance(3, 2, 0), 0);
        due(x.count(7), 0);
        due(x.arc(0, 2), 3);

        nextPromise(); // 43
        due(x.mean(0, 0), 0);
        due(x.mean(0, 1), 1);
        due(x.mean(3, 2), -2);
        due(x.mean(0, -1), -2);
        due(x.mean(-1, 0), -3);
        due(x.mean(3, 0), -3);
        on("works cyclic 4 twist 0;arc 0 0 by 0;arc 0 0 by 0;");
        due(x.mean(2, 0), 51);
        due(x.mean(2, 1), 50);
        on("works cyclic 8 twist 0;arc 0 0 by 1;");
        // 8 by 81 draws, 4 by 18, 8 by 1 (voltage 3): 728 by 100.
        due(x.mean(2, 0), 182);
        due(x.mean(2, 1), 25);
        due(x.mean(1, 0), 38);
        due(x.mean(1, 1), 5);
        due(x.mean(0, 0), 8);
    }

    private static void traysAndImages() {
        nextPromise(); // 44
        due(x.numbers(-1, 0, 1), -2);
        due(x.numbers(4, 0, 1), -2);
        due(x.numbers(0, -1, 1), -2);
        due(x.numbers(0, 4, 99), -2);
        due(x.numbers(0, 0, -1), -3);
        due(x.write(0, 0, 1), -6);
        due(x.numbers(0, 3, 40), 0);
        due(x.write(0, 39, 7), 7);
        due(x.numbers(0, 0, 41), -3);
        due(x.write(0, 39, Long.MAX_VALUE), Long.MAX_VALUE);
        due(x.numbers(0, 0, 0), 0);
        due(x.write(0, 0, 0), -7);
        on("works cyclic 5 twist 0;arc 0 0 by 1;arc 0 0 by 2;");
        tray(1, 0, 2, 2);
        due(x.walk(1), 4);
        x.numbers(1, 0, 2);
        due("all 0", x.walk(1), 2);

        nextPromise(); // 45
        due(x.write(4, 0, 0), -2);
        due(x.write(-1, 0, 0), -2);
        due(x.write(1, 0, 0), -6);
        x.numbers(1, 0, 2);
        due(x.write(1, 2, 0), -7);
        due(x.write(1, -1, 0), -7);
        due(x.write(1, 1, 127), 127);
        due(x.write(1, 1, 128), -128);
        due(x.write(1, 1, 511), -1);
        x.numbers(1, 1, 2);
        due(x.write(1, 1, 32767), 32767);
        due(x.write(1, 1, 32768), -32768);
        due(x.write(1, 1, 65536 + 5), 5);
        x.numbers(1, 2, 2);
        due(x.write(1, 1, Integer.MAX_VALUE + 1L), Integer.MIN_VALUE);
        due(x.write(1, 1, -1), -1);
        x.numbers(1, 3, 2);
        due(x.write(1, 1, Long.MIN_VALUE), Long.MIN_VALUE);

        nextPromise(); // 46
        due(x.lists(4), -2);
        due(x.lists(-1), -2);
        due(x.lists(0), -6);
        x.numbers(0, 0, 3);
        due(x.lists(0), -5);
        on("works cyclic 4 twist 9;places 4;arc 0 0 by 0;keeps : arc > 0;arc 2 2 by 1;arc 2 3 by 0;arc 3 3 by 2;keeps : arc = 1 or arc = 2;");
        tray(0, 0, 15, 15, 15, 15, 16, 17);
        due(x.lists(0), 4);
        due(x.ring(0), 8);
        tray(0, 0, 0, 0, 0);
        due(x.lists(0), 3);
        x.numbers(0, 0, 0);
        due(x.lists(0), 0);
        on("works cyclic 12 twist 9;places 2;arc 0 0 by 1;keeps : member > 9;arc 0 0 by 0;keeps : arc = 1 and member > 9;");
        tray(0, 0, 15, 16);
        due("one node, 10, into the first place", x.lists(0), 1);
        due(x.judge(0, 0), -1);
        due(x.perform(0), 2);
        due(x.count(3), 6);
        tray(0, 0, 9);
        due(x.lists(0), 1);
        due(x.perform(0), 1);
        due("the node was there as a deed", x.count(3), 0);

        nextPromise(); // 47
        due(x.image(-1), -2);
        due(x.image(2), -2);
        on(PETERSEN);
        x.cut(0);
        due(x.image(0), 0);
        due(x.count(7), 1);
        due(x.image(1), 0);
        x.twist(7);
        due(x.image(1), 0);
        x.cut(0);
        x.restore(1);
        due(x.count(3), 7);
        due(x.count(6), 1);

        nextPromise(); // 48
        due(x.restore(-1), -2);
        due(x.restore(2), -2);
        due(x.restore(0), -5);
        x.image(0);
        due(x.restore(1), -5);
        tell(WEIGHTS);
        x.turn(1, 2);
        x.cut(0);
        x.twist(6);
        x.image(1);
        x.undo(1);
        tell(HEAWOOD);
        faulty("works", 2, 5);
        x.feed(1, 2, 3, 4, 5);
        tray(2, 0, 1);
        due(x.restore(1), 0);
        int[] counts = {1, 2, 3, 6, 3, 3, 1, 0, 20, 4};
        for (int i = 0; i < 10; i++) due("count(" + i + ")", x.count(i), counts[i]);
        due(x.fault(1), 5);
        due(x.arc(1, 2), 2);
        due(x.light(0, 2), 56);
        due(x.undo(1), -3);
        due(x.write(2, 0, 1), 1);
        due(x.restore(0), 0);
        due(x.count(9), 0);
        due(x.count(1), 0);
        due(x.restore(1), 0);
        due(x.arc(0, 4), 1);

        nextPromise(); // 49
        on("works product 2 3 twist 8;places 4;arc 0 1 by 5;half 3 by 3;arc 2 2 by 0;");
        x.cut(2);
        x.cut(0);
        x.twist(4);
        x.feed(0, 0, 0, 0, 0);
        int[] all = {4, 3, 6, 4, 24, 3, 5, 3, 20, 5};
        for (int i = 0; i < 10; i++) due("count(" + i + ")", x.count(i), all[i]);
        due(x.count(10), -1);
        due(x.count(-1), -1);
    }
}
