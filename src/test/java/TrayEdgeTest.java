/** Edges of TRAYS, IMAGES and of what is counted: promises 44 to 49. */
public final class TrayEdgeTest extends Bench {
    private static final int BEYOND = Integer.MAX_VALUE;
    private static final int BELOW = Integer.MIN_VALUE;
    private static final String RING = "works cyclic 12 twist 0;places 5;arc 0 1 by 0;arc 1 2 by 0;arc 2 3 by 0;arc 3 4 by 0;arc 4 0 by 1;";

    public static void main(String[] args) {
        missing();
        numbers();
        fresh();
        write();
        sorts();
        lists();
        listed();
        image();
        restore();
        count();
        end();
    }

    private static void missing() {
        says("TRAYS 0 to 3 are MISSING at first: -6; no others: -2");
        for (int t : new int[] {0, 1, 2, 3, -1, 4, 5, BELOW, BEYOND}) {
            int code = t >= 0 && t <= 3 ? -6 : -2;
            due("judge(" + t + ", 0)", x.judge(t, 0), code);
            due("perform(" + t + ")", x.perform(t), code);
            due("walk(" + t + ")", x.walk(t), code);
            due("lifted(" + t + ")", x.lifted(t), code);
            due("twists(" + t + ")", x.twists(t), code);
            due("weigh(" + t + ")", x.weigh(t), code);
            due("write(" + t + ", 0, 0)", x.write(t, 0, 0), code);
            due("lists(" + t + ")", x.lists(t), code);
        }
        says("A TRAY by itself: one is there, the others are MISSING still");
        for (int there = 0; there < 4; there++) {
            x = new CageLift();
            due(x.numbers(there, 0, 0), 0);
            for (int t = 0; t < 4; t++) due("perform(" + t + ")", x.perform(t), t == there ? 0 : -6);
        }
    }

    private static void numbers() {
        says("Promise 44: -2: no such TRAY, sort");
        for (int t : new int[] {-1, 4, 5, BELOW, BEYOND}) due("numbers(" + t + ", 0, 1)", x.numbers(t, 0, 1), -2);
        for (int sort : new int[] {-1, 4, 5, BELOW, BEYOND}) due("numbers(0, " + sort + ", 1)", x.numbers(0, sort, 1), -2);
        for (int t = 0; t < 4; t++) for (int sort = 0; sort < 4; sort++) due("numbers(" + t + ", " + sort + ", 1)", x.numbers(t, sort, 1), 0);
        says("Promise 44: -3: n is below 0 or above 40; -2 goes ahead of it");
        for (int n : new int[] {-1, 41, 42, BELOW, BEYOND}) {
            due("numbers(0, 0, " + n + ")", x.numbers(0, 0, n), -3);
            due("numbers(4, 0, " + n + ")", x.numbers(4, 0, n), -2);
            due("numbers(0, 4, " + n + ")", x.numbers(0, 4, n), -2);
        }
        due("it is MISSING still", x.perform(0), -6);
        for (int n = 0; n <= 40; n++) {
            due("numbers(0, 0, " + n + ")", x.numbers(0, 0, n), 0);
            if (n > 0) due("the last one", x.write(0, n - 1, 7), 7);
            due("no more", x.write(0, n, 7), -7);
        }
        says("Promise 44: -3, and the TRAY stays: how many, its sort, its numbers");
        tray(0, 1, 13, 300);
        for (int n : new int[] {-1, 41, BELOW, BEYOND}) due("numbers(0, 0, " + n + ")", x.numbers(0, 0, n), -3);
        due("numbers(0, 4, 1)", x.numbers(0, 4, 1), -2);
        due("its number 0 is a TWIST still, 1 can't be", x.judge(0, 0), 1);
        due(x.perform(0), 1);
        due(x.count(3), 3);
        due("of 16 bits still", x.write(0, 1, 300), 300);
        due(x.write(0, 2, 0), -7);
    }

    private static void fresh() {
        says("Promise 44: all 0 (in place of another one)");
        on("works cyclic 5 twist 0;arc 0 0 by 1;arc 0 0 by 2;");
        tray(0, 3, 2, 2, 2, 2, 2, 2, 2, 2, 2, 2, 2, 2);
        due(x.walk(0), 24 % 5);
        due(x.numbers(0, 3, 12), 0);
        due(x.walk(0), 12 % 5);
        tray(0, 3, 2, 2, 2, 2, 2, 2, 2, 2, 2, 2, 2, 2);
        due(x.numbers(0, 1, 1), 0);
        due(x.numbers(0, 3, 12), 0);
        due("none is left from before", x.walk(0), 12 % 5);
        due("its sort is the new one", x.numbers(0, 0, 1), 0);
        due(x.write(0, 0, 128), -128);
        says("A TRAY has 0 numbers: it isn't MISSING");
        due(x.numbers(3, 0, 0), 0);
        due(x.perform(3), 0);
        due(x.judge(3, 0), -1);
        due(x.judge(3, 1), 0);
        due(x.walk(3), -4);
        due(x.lifted(3), -4);
        due(x.twists(3), -4);
        due(x.weigh(3), -4);
        due(x.write(3, 0, 0), -7);
        due(x.lists(3), -5);
    }

    private static void write() {
        says("Promise 45: -2: no such TRAY; -6; -7");
        x.numbers(0, 0, 40);
        x.numbers(1, 0, 1);
        for (int i : new int[] {-1, 40, 41, BELOW, BEYOND}) due("write(0, " + i + ", 1)", x.write(0, i, 1), -7);
        for (int i : new int[] {-1, 1, 39, 40, BELOW, BEYOND}) due("write(1, " + i + ", 1)", x.write(1, i, 1), -7);
        for (int i : new int[] {-1, 0, 40, BELOW, BEYOND}) due("-6 goes ahead of -7", x.write(2, i, 1), -6);
        for (int i : new int[] {-1, 0, 40, BELOW, BEYOND}) due("-2 goes ahead of -7", x.write(4, i, 1), -2);
        for (int i = 0; i < 40; i++) due("write(0, " + i + ", 9)", x.write(0, i, 9), 9);
        says("Promise 45: one number alone is another one");
        on("works cyclic 7 twist 0;" + "arc 0 0 by 1;".repeat(2));
        x.turn(1, 3);
        for (int i = 0; i < 12; i++) {
            x.numbers(0, 2, 12);
            x.write(0, i, 2);
            due("number " + i, x.walk(0), (11 + 3) % 7);
        }
    }

    private static void sorts() {
        int[] bits = {8, 16, 32};
        for (int sort = 0; sort < 3; sort++) {
            says("Promise 45: v, cut to its sort: as it is there: " + bits[sort] + " bits wrap around");
            x.numbers(0, sort, 1);
            long half = 1L << bits[sort] - 1;
            long whole = 2 * half;
            due("the greatest", x.write(0, 0, half - 1), half - 1);
            due("one more", x.write(0, 0, half), -half);
            due("the least", x.write(0, 0, -half), -half);
            due("one less", x.write(0, 0, -half - 1), half - 1);
            due("all bits", x.write(0, 0, whole - 1), -1);
            due("once round", x.write(0, 0, whole), 0);
            due("once round and 5", x.write(0, 0, whole + 5), 5);
            due("once round backward", x.write(0, 0, -whole), 0);
            due(x.write(0, 0, -1), -1);
            due(x.write(0, 0, Long.MAX_VALUE), -1);
            due(x.write(0, 0, Long.MIN_VALUE), 0);
            due(x.write(0, 0, 0), 0);
        }
        says("Promise 45: v, cut to its sort: 64 bits stay as they are");
        x.numbers(0, 3, 1);
        for (long v : new long[] {0, 1, -1, Long.MAX_VALUE, Long.MIN_VALUE, 1L << 32, -(1L << 32), 4294967295L}) due("" + v, x.write(0, 0, v), v);
        says("Promise 45: as it is there is what other calls see");
        x.numbers(0, 0, 1);
        x.write(0, 0, 256 + 15);
        due(x.perform(0), 1);
        due(x.count(3), 5);
        x.numbers(0, 1, 1);
        x.write(0, 0, 65536 + 17);
        due(x.perform(0), 1);
        due(x.count(3), 7);
        x.numbers(0, 2, 1);
        x.write(0, 0, (1L << 32) + 18);
        due(x.perform(0), 1);
        due(x.count(3), 8);
        x.numbers(0, 3, 1);
        x.write(0, 0, (1L << 32) + 19);
        due("64 bits aren't cut", x.perform(0), 0);
    }

    private static void lists() {
        says("Promise 46: -2: the TRAY; -6; -5: there is no RING");
        x.numbers(0, 0, 3);
        x.numbers(1, 0, 0);
        due(x.lists(0), -5);
        due("without a place, too", x.lists(1), -5);
        due("-6 goes ahead of -5", x.lists(2), -6);
        due("-2 goes ahead of -5", x.lists(4), -2);
        due("-2 goes ahead of -5", x.lists(-1), -2);
        due(x.lists(BELOW), -2);
        due(x.lists(BEYOND), -2);
        says("Promise 46: as far as it has places: how many");
        on(RING);
        for (int n = 0; n <= 40; n++) {
            x.numbers(0, n % 4, n);
            due(n + " places for sixty NODES", x.lists(0), n);
        }
        on("works cyclic 4 twist 0;arc 0 0 by 1;");
        for (int n = 0; n <= 8; n++) {
            x.numbers(3, n % 4, n);
            due(n + " places for four NODES", x.lists(3), Math.min(4, n));
        }
        due(x.lists(2), -6);
    }

    private static void listed() {
        says("Promise 46: NODES of the first RING come into a TRAY; what lies behind stays");
        // A ring of the nodes 10, 11, seen as deeds.
        on("works cyclic 12 twist 9;arc 0 0 by 1;arc 0 0 by 1;keeps : member = 10;");
        due(x.ring(0), 10);
        due(x.ring(1), 11);
        tray(0, 0, 0, 0, 15);
        due(x.lists(0), 2);
        due("10, 11, 15 are TWISTS", x.judge(0, 0), -1);
        due(x.perform(0), 3);
        due(x.count(3), 5);
        tray(0, 0, 15, 15);
        due(x.lists(0), 2);
        due(x.perform(0), 2);
        due("the second is 11", x.count(3), 1);
        tray(0, 3, 15);
        due("one place: the first one alone", x.lists(0), 1);
        due(x.perform(0), 1);
        due("the first is 10", x.count(3), 0);
        says("Promise 46: refused by -5, the TRAY stays");
        tray(0, 0, 16, 17);
        due(x.lists(0), -5);
        due(x.perform(0), 2);
        due(x.count(3), 7);
    }

    private static void image() {
        says("IMAGES 0 to 1; promise 47: -2");
        for (int i : new int[] {-1, 2, 3, BELOW, BEYOND}) due("image(" + i + ")", x.image(i), -2);
        due(x.image(0), 0);
        due(x.image(1), 0);
        due("again, in place of the other", x.image(0), 0);
        says("Promise 47: an IMAGE is made, all else stays: what can be UNDONE, THE TAPE");
        on("works cyclic 5 twist 0;arc 0 0 by 1;");
        for (int i = 1; i <= 4; i++) x.twist(i);
        lay("works");
        due(x.image(1), 0);
        due(x.count(7), 4);
        due(x.count(8), 20);
        due(x.undo(4), 0);
        due(x.count(3), 0);
    }

    private static void restore() {
        says("IMAGES: none at first; promise 48: -2; -5: none was made");
        for (int i : new int[] {-1, 2, 3, BELOW, BEYOND}) due("restore(" + i + ")", x.restore(i), -2);
        due(x.restore(0), -5);
        due(x.restore(1), -5);
        x.twist(4);
        due(x.restore(0), -5);
        due("refused, so all stays", x.count(7), 1);
        due(x.count(3), 4);
        x.image(1);
        due("the other one was", x.restore(0), -5);
        due(x.restore(1), 0);
        due(x.restore(2), -2);
        says("THE WORKS and what a call could bring back by UNDOING; nothing can be UNDONE behind");
        on("works mirrors 3 twist 4;places 2;arc 0 1 by 2;half 1 by 3;weighs : 5 + twist;keeps : member < 6;");
        x.turn(1, 5);
        x.cut(0);
        x.twist(8);
        due(x.image(0), 0);
        due(tell("works cyclic 2 twist 1;arc 0 0 by 0;"), 2);
        due(x.image(1), 0);
        x.cut(0);
        due(x.restore(0), 0);
        int[] counts = {2, 2, 6, 8, 12, 3, 1, 0, 0, 6};
        for (int i = 0; i < 10; i++) due("count(" + i + ")", x.count(i), counts[i]);
        due(x.arc(0, 1), 1);
        due(x.arc(0, 2), 2);
        due(x.arc(1, 2), 5);
        due(x.arc(1, 3), 1);
        due(x.product(1, 3), 4);
        // Turn 0 times mirror 2 is mirror 2.
        due(x.light(6, 11), 13);
        due(x.undo(1), -3);
        due("the VOLTAGES now, not those told", x.turn(1, 4), 5);
        due(x.count(7), 1);
        due(x.restore(1), 0);
        int[] others = {1, 1, 2, 1, 2, 2, 0, 0, 0, 2};
        for (int i = 0; i < 10; i++) due("count(" + i + ")", x.count(i), others[i]);
        says("an IMAGE stays as it was made: to go on from more than once");
        on("works cyclic 7 twist 1;arc 0 0 by 1;");
        x.image(0);
        for (int i = 0; i < 3; i++) {
            x.turn(0, 3);
            x.cut(0);
            due(x.restore(0), 0);
            due(x.arc(0, 2), 1);
            due(x.arc(0, 4), 0);
            due(x.girth(), 7);
        }
        tell("works cyclic 4 twist 0;");
        due(x.restore(0), 0);
        due(x.girth(), 7);
        says("an IMAGE of a new object, and made again in place of another");
        x.image(0);
        tell("works cyclic 4 twist 2;");
        due(x.restore(0), 0);
        due(x.count(2), 1);
        due(x.count(9), 0);
        tell("works cyclic 4 twist 2;");
        x.image(0);
        tell("works cyclic 9 twist 3;");
        due(x.restore(0), 0);
        due(x.count(2), 4);
        due(x.count(3), 2);
        says("an IMAGE holds no TRAY, no FAULT, no TAPE: they stay as they are");
        x.image(0);
        tray(0, 1, 17);
        faulty("works#", 1, 5);
        lay("works cyclic 5 twist 0;");
        due(x.restore(0), 0);
        due(x.fault(0), 1);
        due(x.fault(1), 5);
        due(x.count(8), 40);
        due(x.perform(0), 1);
        due(x.works(23), 1);
    }

    private static void count() {
        says("Promise 49: NONE for others");
        for (int what : new int[] {-1, 10, 11, BELOW, BEYOND}) due("count(" + what + ")", x.count(what), -1);
        says("Promise 49: as much as there can be");
        on("works cyclic 12 twist 9;places 5;" + "arc 4 4 by 11;".repeat(12));
        int[] most = {5, 12, 12, 9, 60, 144, 0, 0, 0, 14};
        for (int i = 0; i < 10; i++) due("count(" + i + ")", x.count(i), most[i]);
        for (int a = 0; a < 12; a++) x.cut(a);
        for (int i = 0; i < 45; i++) x.feed(0, 0, 0, 0, 0);
        int[] cut = {5, 12, 12, 9, 60, 0, 4095, 10, 900, 14};
        for (int i = 0; i < 10; i++) due("count(" + i + ")", x.count(i), cut[i]);
        says("Promise 49: LINKS: of halves half as many, those kept alone");
        on("works cyclic 12 twist 9;" + "half 0 by 6;".repeat(12));
        due(x.count(5), 72);
        on("works cyclic 12 twist 9;" + "half 0 by 6;".repeat(12) + "keeps : member = 5 and arc > 10;");
        due(x.count(5), 1);
        on("works cyclic 12 twist 9;arc 0 0 by 0;keeps : 1 = 2;");
        due(x.count(5), 0);
    }
}
