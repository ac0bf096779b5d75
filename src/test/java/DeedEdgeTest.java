import java.util.Arrays;

/** Edges of THE GROUP, the laws, DEEDS, what can be UNDONE, a DAY: promises 6 to 16. */
public final class DeedEdgeTest extends Bench {
    private static final int BEYOND = Integer.MAX_VALUE;
    private static final int BELOW = Integer.MIN_VALUE;
    private static final String FULL = "works mirrors 6 twist 0;places 5;" + "arc 0 1 by 0;".repeat(11) + "half 4 by 6;";

    public static void main(String[] args) {
        groups();
        members();
        lawBounds();
        lawOrder();
        turn();
        cut();
        twist();
        undo();
        deeds();
        judge();
        perform();
        day();
        draws();
        end();
    }

    private static void groups() {
        says("THE GROUP: cyclic n: x times y is x + y, its rest by n");
        for (int n = 1; n <= 12; n++) {
            on("works cyclic " + n + " twist 0;");
            for (int i = 0; i < n; i++) for (int j = 0; j < n; j++) due(x.product(i, j), i + j < n ? i + j : i + j - n);
            due(x.centre(), n);
        }
        says("THE GROUP: mirrors n: turns and mirrors (rests by n)");
        for (int n = 1; n <= 6; n++) {
            on("works mirrors " + n + " twist 0;");
            for (int k = 0; k < n; k++) {
                for (int l = 0; l < n; l++) {
                    due("turn " + k + " turn " + l, x.product(k, l), Math.floorMod(k + l, n));
                    due("turn " + k + " mirror " + l, x.product(k, n + l), n + Math.floorMod(k + l, n));
                    due("mirror " + k + " turn " + l, x.product(n + k, l), n + Math.floorMod(k - l, n));
                    due("mirror " + k + " mirror " + l, x.product(n + k, n + l), Math.floorMod(k - l, n));
                }
            }
            due("the centre of mirrors " + n, x.centre(), n <= 2 ? 2 * n : n % 2 == 0 ? 2 : 1);
        }
        says("THE GROUP: product a b: MEMBER i b + j, the rest of i + k by a, of j + l by b");
        for (int a = 1; a <= 12; a++) {
            for (int b = 1; a * b <= 12; b++) {
                on("works product " + a + " " + b + " twist 0;");
                for (int i = 0; i < a; i++) for (int j = 0; j < b; j++) for (int k = 0; k < a; k++) for (int l = 0; l < b; l++) {
                    due(x.product(i * b + j, k * b + l), (i + k) % a * b + (j + l) % b);
                }
                due(x.centre(), a * b);
            }
        }
        says("THE GROUP: quaternions: i i = j j = k k = -1, i j = k, j k = i, k i = j, the other way round -k, -i, -j");
        on("works quaternions twist 0;");
        int[][] told = {{1, 1, 4}, {2, 2, 4}, {3, 3, 4}, {1, 2, 3}, {2, 3, 1}, {3, 1, 2}, {2, 1, 7}, {3, 2, 5}, {1, 3, 6}};
        for (int[] t : told) {
            for (int signs = 0; signs < 4; signs++) {
                int minus = (signs & 1) + (signs >> 1);
                due("product of quaternions", x.product((t[0] + (signs & 1) * 4) % 8, (t[1] + (signs >> 1) * 4) % 8), (t[2] + minus * 4) % 8);
            }
        }
        for (int g = 0; g < 8; g++) {
            due("1 times", x.product(0, g), g);
            due("times 1", x.product(g, 0), g);
            due("-1 times", x.product(4, g), (g + 4) % 8);
            due("times -1", x.product(g, 4), (g + 4) % 8);
        }
        due(x.centre(), 2);
    }

    private static void members() {
        String[] kinds = {"cyclic 1", "cyclic 12", "mirrors 1", "mirrors 5", "mirrors 6", "product 2 3", "product 12 1", "quaternions"};
        int[] sizes = {1, 12, 2, 10, 12, 6, 12, 8};
        for (int i = 0; i < kinds.length; i++) {
            says("Promise 6, 7, 8: -2: no MEMBERS, " + kinds[i]);
            on("works " + kinds[i] + " twist 0;");
            int last = sizes[i] - 1;
            due(x.product(last, last) >= 0 ? 1 : 0, 1);
            for (int g : new int[] {-1, sizes[i], BELOW, BEYOND}) {
                due("product(" + g + ", 0)", x.product(g, 0), -2);
                due("product(0, " + g + ")", x.product(0, g), -2);
                due("product(" + last + ", " + g + ")", x.product(last, g), -2);
                due("product(" + g + ", " + g + ")", x.product(g, g), -2);
                due("inverse(" + g + ")", x.inverse(g), -2);
                due("orderOf(" + g + ")", x.orderOf(g), -2);
            }
            for (int g = 0; g < sizes[i]; g++) {
                due("inverse(" + g + ")", x.product(g, x.inverse(g)), 0);
                due("inverse(" + g + ")", x.product(x.inverse(g), g), 0);
                int times = 1;
                for (int power = g; power != 0 && times < 99; power = x.product(power, g)) times++;
                due("orderOf(" + g + ")", x.orderOf(g), times);
            }
            due("of its ONE", x.orderOf(0), 1);
        }
    }

    /** What a law weighs, of a network of one link. */
    private static int weight(String sum) {
        on("works cyclic 2 twist 0;half 0 by 1;weighs : " + sum + ";");
        return x.light(0, 1);
    }

    private static void lawBounds() {
        says("A LINK WEIGHS what the law weighs tells, 1 at least, 99 at most");
        String[] sums = {"0 - 999", "0 - 1", "0", "1", "2", "98", "99", "100", "999", "0 - 999 * 999 * 999", "999 * 999 * 999"};
        int[] weights = {1, 1, 1, 1, 2, 98, 99, 99, 99, 1, 99};
        for (int i = 0; i < sums.length; i++) due(sums[i], weight(sums[i]), weights[i]);
        String million = "(500 + 500) * (500 + 500)";
        // From 998001, which is 999 * 999, up to a million it is 1999.
        String down = " - 999 * 999 - 999 - 950";
        says("Each + is kept from -1,000,000 to 1,000,000");
        due(weight(million + down), 50);
        due(weight("999 * 999 + 999 + 999" + down), 49);
        due(weight("999 * 999 + 999 + 999 + 1" + down), 50);
        due(weight("999 * 999 + 999 + 999 + 2" + down), 50);
        due(weight(million + " + 1" + down), 50);
        due(weight(million + " + " + million + down), 50);
        says("Each - is kept from -1,000,000 to 1,000,000");
        String up = " + 999 * 999 + 999 + 999 + 51";
        due(weight("0 - " + million + up), 50);
        due(weight("0 - 999 * 999 - 999 - 999" + up), 51);
        due(weight("0 - 999 * 999 - 999 - 999 - 1" + up), 50);
        due(weight("0 - 999 * 999 - 999 - 999 - 2" + up), 50);
        due(weight("0 - " + million + " - " + million + up), 50);
        due(weight(million + " - (0 - 1)" + down), 50);
        due(weight("0 - " + million + " + (0 - 1)" + up), 50);
        says("Each * is kept from -1,000,000 to 1,000,000");
        due(weight("999 * 999 * 2" + down), 50);
        due(weight("(500 + 501) * (500 + 500)" + down), 50);
        due(weight(million + " * " + million + down), 50);
        due(weight("(0 - " + million + ") * (0 - " + million + ")" + down), 50);
        due(weight("(0 - " + million + ") * " + million + up), 50);
        due(weight("(0 - 500 - 501) * (500 + 500)" + up), 50);
        due("from the left on: a million, then nothing", weight("999 * 999 * 999 * 0 + 7"), 7);
    }

    private static void lawOrder() {
        says("SUM, TERM: - takes from what is ahead of it, * binds more; TRUTH: not, then and, then or");
        String[] sums = {"9 - 3 - 2", "9 - 3 + 2", "2 + 3 * 4", "2 * 3 + 4", "20 - 2 * 3", "(2 + 3) * 4", "20 - (3 - 2)"};
        int[] weights = {4, 8, 14, 10, 14, 20, 19};
        for (int i = 0; i < sums.length; i++) due(sums[i], weight(sums[i]), weights[i]);
        String yes = "1 = 1";
        String no = "1 = 2";
        String[] truths = {yes + " or " + yes + " and " + no, yes + " and " + no + " or " + yes, "not " + no + " and " + no,
            "not " + yes + " or " + yes, "not [" + no + " and " + no + "]", "[" + yes + " or " + yes + "] and " + no, "not not " + yes,
            "1 < 1", "1 > 1", "1 < 2", "2 > 1", "2 < 1", "1 > 2", "0 = 0"};
        int[] hold = {1, 1, 0, 1, 1, 0, 1, 0, 0, 1, 1, 0, 0, 1};
        for (int i = 0; i < truths.length; i++) {
            due(truths[i], weight("if " + truths[i] + " then 11 else 22 end"), hold[i] == 1 ? 11 : 22);
            on("works cyclic 2 twist 0;half 0 by 1;keeps : " + truths[i] + ";");
            due(truths[i], x.count(5), hold[i]);
        }
        says("in both laws: arc: its number; from, to: its PLACES; member: x; twist: the TWIST");
        on("works cyclic 3 twist 9;places 5;" + "arc 0 1 by 0;".repeat(11) + "arc 4 3 by 2;keeps : arc = 11;weighs : arc + from * 10 + to * 2 + member + twist;");
        for (int m = 0; m < 3; m++) due("member " + m, x.light(12 + m, 9 + (m + 2) % 3), 11 + 40 + 6 + m + 9);
        x.twist(0);
        due("the TWIST now", x.light(12, 11), 57);
        for (String of : new String[] {"arc = 11", "from = 4", "to = 3", "from > to", "arc > 10"}) {
            on("works cyclic 3 twist 9;places 5;" + "arc 0 1 by 0;".repeat(11) + "arc 4 3 by 2;keeps : " + of + ";");
            due(of, x.count(5), 3);
            due(of, x.joins(12, 11), 1);
        }
        says("of a half: for each x that is less than x times g (member: x)");
        on("works mirrors 3 twist 0;half 0 by 4;keeps : member < 3;weighs : member * 10 + 5;");
        due(x.count(5), 3);
        // x times mirror 1 is mirror x + 1.
        for (int m = 0; m < 3; m++) due(x.light(m, 3 + (m + 1) % 3), m * 10 + 5);
        on("works mirrors 3 twist 0;half 0 by 4;keeps : member > 2;");
        due(x.count(5), 0);
    }

    private static void turn() {
        says("Promise 10: -11: no such arc, MEMBER");
        on(FULL);
        due("the last arc", x.turn(11, 11), 6);
        due("the last MEMBER", x.turn(0, 11), 0);
        due("its ONE", x.turn(0, 0), 11);
        for (int a : new int[] {-1, 12, 13, BELOW, BEYOND}) due("turn(" + a + ", 0)", x.turn(a, 0), -11);
        for (int g : new int[] {-1, 12, 13, BELOW, BEYOND}) due("turn(0, " + g + ")", x.turn(0, g), -11);
        due(x.count(7), 3);
        says("Promise 10: -12: a half by a MEMBER not of ORDER 2");
        on(FULL);
        for (int g = 0; g < 12; g++) {
            boolean two = g >= 6 || g == 3;
            int was = x.arc(11, 2);
            due("turn(11, " + g + ")", x.turn(11, g), two ? was : -12);
            due(x.arc(11, 2), two ? g : was);
        }
        due("such that could be", x.count(7), 7);
        says("Promise 10: -11 comes first: a half by what is no MEMBER");
        on(FULL);
        for (int g : new int[] {-1, 12, BELOW, BEYOND}) due("turn(11, " + g + ")", x.turn(11, g), -11);
        due(x.count(7), 0);
        says("Promise 10: its VOLTAGE ahead of it, also of an arc that is CUT, also the same one");
        on("works cyclic 4 twist 0;arc 0 0 by 3;");
        x.cut(0);
        due(x.turn(0, 1), 3);
        due(x.arc(0, 4), 1);
        due(x.turn(0, 1), 1);
        due(x.count(7), 3);
    }

    private static void cut() {
        says("Promise 11: 1 if it is CUT then, else 0; -11");
        on(FULL);
        for (int a : new int[] {-1, 12, 31, 32, 33, -32, BELOW, BEYOND}) due("cut(" + a + ")", x.cut(a), -11);
        due(x.count(6), 0);
        due(x.count(7), 0);
        int bits = 0;
        for (int a = 0; a < 12; a++) {
            due("cut(" + a + ")", x.cut(a), 1);
            bits |= 1 << a;
            due(x.count(6), bits);
        }
        due("all are CUT", x.count(5), 0);
        for (int a = 11; a >= 0; a--) due("cut(" + a + ")", x.cut(a), 0);
        due(x.count(6), 0);
        due(x.count(5), 11 * 12 + 6);
    }

    private static void twist() {
        says("Promise 12: another TWIST (0 to 9): what it was; -11");
        int was = 0;
        for (int t = 9; t >= 0; t--) {
            due("twist(" + t + ")", x.twist(t), was);
            was = t;
        }
        for (int t : new int[] {-1, 10, 11, BELOW, BEYOND}) due("twist(" + t + ")", x.twist(t), -11);
        due(x.count(3), 0);
        due(x.twist(0), 0);
        due(x.count(7), 10);
    }

    private static void undo() {
        says("Promise 13: -3: n (1 to 10), more than can be");
        due("nothing can be", x.undo(1), -3);
        for (int i = 1; i <= 4; i++) x.twist(i);
        for (int n : new int[] {0, -1, 5, 10, 11, BELOW, BEYOND}) {
            due("undo(" + n + ")", x.undo(n), -3);
            due(x.count(3), 4);
            due(x.count(7), 4);
        }
        due(x.undo(4), 0);
        due(x.count(3), 0);
        due(x.undo(1), -3);
        says("10 at most (eldest are forgotten)");
        for (int calls = 9; calls <= 23; calls++) {
            on("works cyclic 12 twist 5;arc 0 0 by 0;");
            int held = Math.min(10, calls);
            for (int i = 1; i <= calls; i++) {
                x.turn(0, i % 12);
                due(x.count(7), Math.min(10, i));
            }
            due(x.undo(11), -3);
            if (held < 10) due(x.undo(10), -3);
            due("as many as can be", x.undo(held), 0);
            due("VOLTAGE behind " + calls, x.arc(0, 2), (calls - held) % 12);
            due(x.undo(1), -3);
        }
        says("the latest first, one by one, and on from there");
        on("works cyclic 12 twist 5;arc 0 0 by 0;arc 0 0 by 1;");
        for (int i = 1; i <= 13; i++) x.turn(0, i % 12);
        for (int left = 9; left >= 4; left--) {
            due(x.undo(1), left);
            due(x.arc(0, 2), (left + 3) % 12);
        }
        for (int i = 1; i <= 5; i++) x.turn(1, i + 1);
        due(x.count(7), 9);
        due(x.undo(6), 3);
        due(x.arc(1, 2), 1);
        due(x.arc(0, 2), 6);
        due(x.undo(3), 0);
        due(x.arc(0, 2), 3);
        says("UNDONE: VOLTAGES, which are CUT, the TWIST");
        on(FULL);
        x.turn(11, 9);
        x.cut(3);
        x.twist(7);
        x.turn(3, 4);
        due(x.undo(1), 3);
        due(x.arc(3, 2), 0);
        due(x.count(3), 7);
        due(x.undo(1), 2);
        due(x.count(3), 0);
        due(x.count(6), 8);
        due(x.undo(1), 1);
        due(x.count(6), 0);
        due(x.arc(11, 2), 9);
        due(x.undo(1), 0);
        due(x.arc(11, 2), 6);
        says("Calls that did some can be UNDONE: refused ones, UNDOING, asking aren't such");
        on(FULL);
        x.twist(3);
        x.turn(11, 0);
        x.turn(12, 0);
        x.cut(12);
        x.twist(10);
        x.undo(2);
        x.image(0);
        x.tune(0);
        x.chance(2, 2, 0);
        tray(0, 2, 14, 100, 9);
        x.judge(0, 2);
        due(x.count(7), 1);
        due(x.undo(1), 0);
        due(x.count(7), 0);
        due(x.count(3), 0);
    }

    private static void deeds() {
        String full = "works cyclic 12 twist 5;" + "arc 0 0 by 0;".repeat(12);
        says("DEEDS: 10 to 19: TWIST v - 10; others: 1");
        on(full);
        for (int v = 0; v <= 30; v++) {
            tray(0, 3, v);
            boolean can = v >= 10 && v <= 19;
            due("judge of " + v, x.judge(0, 0), can ? -1 : 0);
            due("why of " + v, x.judge(0, 1), can ? 0 : 1);
            due("perform " + v, x.perform(0), can ? 1 : 0);
            if (can) due(x.count(3), v - 10);
        }
        says("DEEDS: 100 to 111: arc v - 100 is CUT, or joined again; others: 1");
        on(full);
        int bits = 0;
        for (int v = 80; v <= 140; v++) {
            tray(0, 1, v);
            boolean can = v >= 100 && v <= 111;
            due("why of " + v, x.judge(0, 1), can ? 0 : 1);
            due("perform " + v, x.perform(0), can ? 1 : 0);
            bits |= can ? 1 << v - 100 : 0;
            due("CUT behind " + v, x.count(6), bits);
        }
        tray(0, 1, 111, 100);
        due(x.perform(0), 2);
        due("joined again", x.count(6), bits & ~(1 << 11) & ~1);
        says("DEEDS: 1000 to 2199: arc (v - 1000) by 100 is TURNED to MEMBER v modulo 100; others: 1");
        for (int v = 980; v <= 2230; v++) {
            on(full);
            x.numbers(0, 1, 1);
            x.write(0, 0, v);
            boolean can = v >= 1000 && v <= 2199 && v % 100 < 12;
            due("why of " + v, x.judge(0, 1), can ? 0 : 1);
            due("perform " + v, x.perform(0), can ? 1 : 0);
            if (can) due("VOLTAGE behind " + v, x.arc((v - 1000) / 100, 2), v % 100);
        }
        says("DEEDS: others: 1: far away, below 0, such as an int would cut to one that can be");
        on(full);
        long[] others = {-1, -10, -19, -100, -1000, 2300, 9999, 1L << 32, (1L << 32) + 10, (1L << 32) + 100, (1L << 32) + 1000,
            -(1L << 32) + 15, Long.MIN_VALUE, Long.MIN_VALUE + 10, Long.MAX_VALUE, Integer.MAX_VALUE, Integer.MIN_VALUE};
        for (long v : others) {
            tray(0, 3, v);
            due("judge of " + v, x.judge(0, 0), 0);
            due("why of " + v, x.judge(0, 1), 1);
            due("perform " + v, x.perform(0), 0);
        }
        due(x.count(7), 0);
        says("DEEDS: why not: 1 no such arc, MEMBER, TWIST; 2 a half by a MEMBER not of ORDER 2");
        on("works mirrors 3 twist 1;half 0 by 3;arc 0 0 by 1;");
        long[] told = {100, 101, 102, 111, 1000, 1002, 1003, 1005, 1006, 1099, 1100, 1105, 1106, 1200, 1203, 2199};
        int[] why = {0, 0, 1, 1, 2, 2, 0, 0, 1, 1, 0, 0, 1, 1, 1, 1};
        for (int i = 0; i < told.length; i++) {
            tray(0, 2, told[i]);
            due("why of " + told[i], x.judge(0, 1), why[i]);
        }
    }

    private static void judge() {
        says("Promise 14: what 0: the first place that can't be (NONE), 1: why (0)");
        on("works mirrors 3 twist 1;half 0 by 3;half 0 by 4;");
        x.numbers(0, 2, 0);
        due("no DEEDS", x.judge(0, 0), -1);
        due(x.judge(0, 1), 0);
        long[] forty = new long[40];
        Arrays.fill(forty, 12);
        tray(0, 1, forty);
        due("forty DEEDS", x.judge(0, 0), -1);
        due(x.judge(0, 1), 0);
        x.write(0, 39, 1000);
        due("the last can't be", x.judge(0, 0), 39);
        due(x.judge(0, 1), 2);
        x.write(0, 0, 0);
        due("the first can't be", x.judge(0, 0), 0);
        due(x.judge(0, 1), 1);
        says("Promise 14: what 2: GIRTH then (NONE), 3: how many LINKS then");
        on("works mirrors 3 twist 1;half 0 by 3;half 0 by 4;");
        x.numbers(0, 1, 0);
        due(x.judge(0, 2), 6);
        due(x.judge(0, 3), 6);
        tray(0, 1, 1004);
        due(x.judge(0, 2), 2);
        due(x.judge(0, 3), 6);
        tray(0, 1, 1004, 101);
        due("no RING", x.judge(0, 2), -1);
        due(x.judge(0, 3), 3);
        tray(0, 1, 100, 101);
        due("no LINK", x.judge(0, 2), -1);
        due(x.judge(0, 3), 0);
        tray(0, 1, 100, 102, 101);
        due("till one can't be", x.judge(0, 3), 3);
        says("Promise 14: judged as if done: each behind those ahead of it, and all stays");
        on("works cyclic 4 twist 0;arc 0 0 by 2;keeps : twist = 3;");
        tray(0, 1, 13, 1001);
        due(x.judge(0, 2), 4);
        due(x.judge(0, 3), 4);
        due(x.count(3), 0);
        due(x.arc(0, 2), 2);
        due(x.count(5), 0);
        due(x.count(7), 0);
        due(x.girth(), -1);
    }

    private static void perform() {
        says("Promise 15: they are done, till one can't be: how many");
        on("works cyclic 12 twist 5;" + "arc 0 0 by 0;".repeat(12));
        x.numbers(2, 2, 0);
        due("none", x.perform(2), 0);
        due(x.count(7), 0);
        long[] forty = new long[40];
        for (int i = 0; i < 40; i++) forty[i] = 1000 + i % 12 * 100 + i % 12;
        tray(2, 1, forty);
        due("forty", x.perform(2), 40);
        due(x.count(7), 1);
        for (int a = 0; a < 12; a++) due(x.arc(a, 2), a);
        x.write(2, 39, 0);
        due("all but the last", x.perform(2), 39);
        x.write(2, 0, 9);
        due("not the first, so none", x.perform(2), 0);
        due(x.count(7), 2);
        tray(2, 1, 19, 112, 11);
        due("what comes behind isn't done", x.perform(2), 1);
        due(x.count(3), 9);
        says("Calls that did some can be UNDONE: one DEED is enough");
        on("works cyclic 12 twist 5;arc 0 0 by 1;");
        x.turn(0, 4);
        tray(2, 1, 17, 0);
        due(x.perform(2), 1);
        due(x.count(7), 2);
        due(x.undo(1), 1);
        due(x.count(3), 5);
        due("what was done ahead of it stays", x.arc(0, 2), 4);
        due(x.undo(1), 0);
        due(x.arc(0, 2), 1);
        says("Calls that did some can be UNDONE each as a whole: forty DEEDS at once");
        on("works cyclic 12 twist 5;" + "arc 0 0 by 0;".repeat(12));
        tray(2, 1, forty);
        x.perform(2);
        due(x.undo(1), 0);
        for (int a = 0; a < 12; a++) due(x.arc(a, 2), 0);
        tray(2, 1, 100, 100);
        due("a DEED and its undoing are DEEDS done", x.perform(2), 2);
        due(x.count(7), 1);
    }

    private static void day() {
        says("Promise 16: a DAY: -3: how many times (1 to 40)");
        on("works cyclic 12 twist 5;" + "arc 0 0 by 0;".repeat(12));
        for (int times : new int[] {0, -1, 41, BELOW, BEYOND}) due("day(1, " + times + ")", x.day(1, times), -3);
        due(x.count(7), 0);
        due("all could be", x.day(1, 1), 1);
        due(x.day(1, 40), 40);
        due(x.count(7), 2);
        due(x.undo(1), 1);
        due(x.undo(1), 0);
        due(x.count(3), 5);
        due(x.count(6), 0);
        says("Promise 16: how many could be: of a network without arcs the TWISTS alone");
        for (int seed = -50; seed < 50; seed++) {
            x = new CageLift();
            int many = 0;
            int last = 0;
            Draws draws = new Draws(seed);
            for (int i = 0; i < 40; i++) {
                int deed = draws.deed();
                if (deed < 100) {
                    many++;
                    last = deed - 10;
                }
            }
            due("day(" + seed + ", 40)", x.day(seed, 40), many);
            due(x.count(3), last);
            due(x.count(7), many > 0 ? 1 : 0);
        }
        says("a DAY by which nothing could be can't be UNDONE");
        int none = 0;
        for (int seed = 0; seed < 20; seed++) {
            x = new CageLift();
            int done = x.day(seed, 1);
            due(x.count(7), done);
            none += done == 0 ? 1 : 0;
        }
        due("there were such", none > 0 && none < 20 ? 1 : 0, 1);
    }

    /** DRAWS by numbers that don't wrap around by themselves. */
    private static final class Draws {
        private long state;

        Draws(int seed) { state = Math.floorMod((long) seed, 1L << 32); }

        int next() {
            state = Math.floorMod(state * 1103515245L + 12345L, 1L << 32);
            return (int) (state / 65536);
        }

        int deed() {
            int kind = next() % 4;
            if (kind == 0) return 10 + next() % 10;
            if (kind == 1) return 100 + next() % 12;
            int arc = next() % 12;
            return 1000 + 100 * arc + next() % 12;
        }
    }

    private static void draws() {
        says("A DAY by a SEED (x, an int; a DRAW: x becomes 1103515245 x + 12345, it is x >>> 16)");
        int[] seeds = {0, 1, -1, 2, 12345, -12345, 65535, 65536, -65536, 0x7fff0000, 0x80000000, 0x80000001, BEYOND, BELOW, BEYOND - 1, 1103515245};
        for (int seed : seeds) {
            for (int times : new int[] {1, 2, 7, 39, 40}) {
                on("works product 2 5 twist 5;" + "arc 0 0 by 0;".repeat(9) + "half 0 by 5;");
                int[] volts = new int[10];
                volts[9] = 5;
                int bits = 0;
                int twist = 5;
                int many = 0;
                Draws draws = new Draws(seed);
                for (int i = 0; i < times; i++) {
                    int deed = draws.deed();
                    int arc = deed < 1000 ? deed - 100 : (deed - 1000) / 100;
                    int g = deed % 100;
                    if (deed < 100) twist = deed - 10;
                    else if (deed < 1000 && arc < 10) bits ^= 1 << arc;
                    else if (deed >= 1000 && (arc < 9 && g < 10 || arc == 9 && g == 5)) volts[arc] = g;
                    else continue;
                    many++;
                }
                due("day(" + seed + ", " + times + ")", x.day(seed, times), many);
                due("its TWIST", x.count(3), twist);
                due("its CUT ones", x.count(6), bits);
                for (int a = 0; a < 10; a++) due("its VOLTAGES", x.arc(a, 2), volts[a]);
                due(x.count(7), many > 0 ? 1 : 0);
            }
        }
        says("A DAY: as in a TRAY, if it can be: one that can't be doesn't end it");
        x = new CageLift();
        due("the first of this SEED can't be", x.day(first(false), 1), 0);
        due("of forty some can", x.day(first(false), 40) > 0 ? 1 : 0, 1);
        due("the first of this SEED can be", x.day(first(true), 1), 1);
    }

    /** The first seed whose first deed is a twist, or isn't. */
    private static int first(boolean twist) {
        for (int seed = 0; seed < 100; seed++) if (new Draws(seed).deed() < 100 == twist) return seed;
        return -1;
    }
}
