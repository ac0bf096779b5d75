import java.util.ArrayList;
import java.util.List;

/**
 * Refused calls answer by a code and change nothing: of two objects alike, one is asked what it refuses, and both
 * must answer alike to all that can be asked then. And of several codes that comes which the call tells first.
 */
public final class RefusedTest extends Bench {
    private static final int BEYOND = Integer.MAX_VALUE;
    private static final int BELOW = Integer.MIN_VALUE;
    private static final String TAPED = "works cyclic 6 twist 2;arc 0 0 by 1;weighs : 3;";

    private interface Call {
        long ask(CageLift of);
    }

    public static void main(String[] args) {
        works();
        groupAndDeeds();
        network();
        rings();
        trayAsking();
        numbersAsked();
        trays();
        noRing();
        fullTape();
        firstCode();
        askedOnly();
        end();
    }

    /** Three calls can be undone, one image is made, one tray is missing, there is a fault, a text on the tape. */
    private static CageLift rich() {
        CageLift of = new CageLift();
        lay(of, "works mirrors 3 twist 4;places 2;arc 0 1 by 2;half 1 by 3;arc 1 1 by 1;weighs : 5 + twist * arc;keeps : member < 5;");
        of.works(116);
        of.image(0);
        of.cut(2);
        of.twist(6);
        of.turn(0, 1);
        lay(of, "works cyclic 13 twist 0;");
        of.works(24);
        of.numbers(1, 1, 13);
        for (int i = 0; i < 13; i++) of.write(1, i, i % 2 == 0 ? 102 : 10 + i / 2);
        of.numbers(2, 0, 2);
        of.write(2, 0, 0);
        of.write(2, 1, 2);
        of.numbers(3, 2, 2);
        of.write(3, 0, 10005);
        of.write(3, 1, 5);
        lay(of, TAPED);
        return of;
    }

    private static CageLift ringless() {
        CageLift of = new CageLift();
        lay(of, "works cyclic 3 twist 4;places 2;arc 0 1 by 2;");
        of.works(45);
        of.numbers(0, 0, 2);
        of.write(0, 0, 15);
        of.write(0, 1, 16);
        of.numbers(1, 3, 0);
        return of;
    }

    /** All that can be seen of an object; it is used up by that. */
    private static List<Long> seen(CageLift of) {
        List<Long> all = new ArrayList<>();
        look(of, all);
        for (int t = 0; t < 4; t++) {
            for (int what = 0; what < 4; what++) all.add((long) of.judge(t, what));
            all.add((long) of.walk(t));
            all.add((long) of.lifted(t));
            all.add((long) of.twists(t));
            all.add((long) of.weigh(t));
        }
        for (int held = of.count(7); held > 0; held--) {
            all.add((long) of.undo(1));
            look(of, all);
        }
        for (int t = 0; t < 4; t++) for (int i = 0; i < 40; i += 3) all.add(of.write(t, i, 0x123456789abcL));
        all.add((long) of.restore(1));
        look(of, all);
        all.add((long) of.restore(0));
        look(of, all);
        all.add((long) of.works(of.count(8)));
        look(of, all);
        return all;
    }

    private static void look(CageLift of, List<Long> all) {
        for (int i = 0; i < 10; i++) all.add((long) of.count(i));
        all.add((long) of.fault(0));
        all.add((long) of.fault(1));
        for (int a = 0; a < 4; a++) for (int what = 0; what < 5; what++) all.add((long) of.arc(a, what));
        all.add((long) of.girth());
        all.add((long) of.lightest());
        all.add((long) of.ring(1));
    }

    private static void refused(String call, Call asked, int code) {
        refused("-" + -code + ": " + call, rich(), rich(), asked, code);
    }

    private static void refused(String call, CageLift one, CageLift other, Call asked, int code) {
        says("Refused calls answer by a code and change nothing: " + call);
        due(call, asked.ask(one), code);
        due("behind it the same", seen(one).equals(seen(other)) ? 1 : 0, 1);
    }

    private static void works() {
        says("what is looked at isn't all alike");
        due("as many LINES", rich().count(9), 7);
        due("a FAULT", rich().fault(0), 3);
        due("to be UNDONE", rich().count(7), 3);
        due("taped", rich().count(8), 60);
        due("a walk", rich().walk(2), 4);
        due("weighed", rich().twists(3), 1);
        refused("works(-1)", of -> of.works(-1), -3);
        refused("works(61)", of -> of.works(61), -3);
        refused("works(1000)", of -> of.works(1000), -3);
        refused("arc(3, 0)", of -> of.arc(3, 0), -2);
        refused("arc(-1, 0)", of -> of.arc(-1, 0), -2);
        refused("arc(0, 5)", of -> of.arc(0, 5), -2);
        refused("arc(0, -1)", of -> of.arc(0, -1), -2);
    }

    private static void groupAndDeeds() {
        refused("product(6, 0)", of -> of.product(6, 0), -2);
        refused("product(0, -1)", of -> of.product(0, -1), -2);
        refused("inverse(6)", of -> of.inverse(6), -2);
        refused("orderOf(-1)", of -> of.orderOf(-1), -2);
        refused("turn(3, 0)", of -> of.turn(3, 0), -11);
        refused("turn(-1, 0)", of -> of.turn(-1, 0), -11);
        refused("turn(0, 6)", of -> of.turn(0, 6), -11);
        refused("turn(0, -1)", of -> of.turn(0, -1), -11);
        refused("turn(1, 0)", of -> of.turn(1, 0), -12);
        refused("turn(1, 2)", of -> of.turn(1, 2), -12);
        refused("cut(3)", of -> of.cut(3), -11);
        refused("cut(-1)", of -> of.cut(-1), -11);
        refused("twist(10)", of -> of.twist(10), -11);
        refused("twist(-1)", of -> of.twist(-1), -11);
        refused("undo(0)", of -> of.undo(0), -3);
        refused("undo(4)", of -> of.undo(4), -3);
        refused("undo(11)", of -> of.undo(11), -3);
        refused("undo(-1)", of -> of.undo(-1), -3);
        refused("judge(4, 0)", of -> of.judge(4, 0), -2);
        refused("judge(1, 4)", of -> of.judge(1, 4), -2);
        refused("judge(1, -1)", of -> of.judge(1, -1), -2);
        refused("judge(0, 0)", of -> of.judge(0, 0), -6);
        refused("perform(4)", of -> of.perform(4), -2);
        refused("perform(-1)", of -> of.perform(-1), -2);
        refused("perform(0)", of -> of.perform(0), -6);
        refused("day(1, 0)", of -> of.day(1, 0), -3);
        refused("day(1, 41)", of -> of.day(1, 41), -3);
    }

    private static void network() {
        refused("joins(12, 0)", of -> of.joins(12, 0), -2);
        refused("joins(0, -1)", of -> of.joins(0, -1), -2);
        refused("degree(12)", of -> of.degree(12), -2);
        refused("neighbour(12, 0)", of -> of.neighbour(12, 0), -2);
        refused("neighbour(0, -1)", of -> of.neighbour(0, -1), -3);
        refused("far(0, 12)", of -> of.far(0, 12), -2);
        refused("ball(12, 0)", of -> of.ball(12, 0), -2);
        refused("ball(0, 100)", of -> of.ball(0, 100), -3);
        refused("ball(0, -1)", of -> of.ball(0, -1), -3);
    }

    private static void rings() {
        refused("ring(-1)", of -> of.ring(-1), -3);
        refused("rings(0)", of -> of.rings(0), -3);
        refused("rings(7)", of -> of.rings(7), -3);
        refused("through(12)", of -> of.through(12), -2);
        refused("bound(1, 3)", of -> of.bound(1, 3), -3);
        refused("bound(3, 13)", of -> of.bound(3, 13), -3);
        refused("light(12, 0)", of -> of.light(12, 0), -2);
        refused("light(0, -1)", of -> of.light(0, -1), -2);
        refused("tune(3)", of -> of.tune(3), -2);
        refused("tuned(-1)", of -> of.tuned(-1), -2);
    }

    private static void trayAsking() {
        refused("walk(4)", of -> of.walk(4), -2);
        refused("walk(0)", of -> of.walk(0), -6);
        refused("walk(1)", of -> of.walk(1), -4);
        refused("walk(3)", of -> of.walk(3), -3);
        refused("lifted(-1)", of -> of.lifted(-1), -2);
        refused("lifted(0)", of -> of.lifted(0), -6);
        refused("lifted(1)", of -> of.lifted(1), -4);
        refused("lifted(3)", of -> of.lifted(3), -3);
        refused("twists(4)", of -> of.twists(4), -2);
        refused("twists(0)", of -> of.twists(0), -6);
        refused("twists(1)", of -> of.twists(1), -4);
        refused("twists(2)", of -> of.twists(2), -3);
        refused("weigh(-1)", of -> of.weigh(-1), -2);
        refused("weigh(0)", of -> of.weigh(0), -6);
        refused("weigh(1)", of -> of.weigh(1), -4);
        refused("weigh(2)", of -> of.weigh(2), -3);
    }

    private static void numbersAsked() {
        refused("search(2, 3, 3, 3)", of -> of.search(2, 3, 3, 3), -2);
        refused("search(1, 3, 3, 0)", of -> of.search(1, 3, 3, 0), -3);
        refused("search(2, 9, 3, 0)", of -> of.search(2, 9, 3, 0), -3);
        refused("search(2, 3, 15, 0)", of -> of.search(2, 3, 15, 0), -3);
        refused("found(5, 3, 3, 0, 0)", of -> of.found(5, 3, 3, 0, 0), -3);
        refused("found(2, 3, 3, 3, 0)", of -> of.found(2, 3, 3, 3, 0), -3);
        refused("chance(1, 0, 2)", of -> of.chance(1, 0, 2), -2);
        refused("chance(0, 0, 0)", of -> of.chance(0, 0, 0), -3);
        refused("chance(61, 0, 0)", of -> of.chance(61, 0, 0), -3);
        refused("chance(1, 3, 0)", of -> of.chance(1, 3, 0), -3);
        refused("mean(0, 2)", of -> of.mean(0, 2), -2);
        refused("mean(3, 0)", of -> of.mean(3, 0), -3);
        refused("mean(-1, 0)", of -> of.mean(-1, 0), -3);
        says("a refused search doesn't spoil what another FOUND");
        due(x.found(2, 3, 3, 0, 1), 1);
        due(x.search(2, 3, 15, 0), -3);
        due(x.found(2, 3, 3, 0, 1), 1);
    }

    private static void trays() {
        refused("numbers(4, 0, 1)", of -> of.numbers(4, 0, 1), -2);
        refused("numbers(-1, 0, 1)", of -> of.numbers(-1, 0, 1), -2);
        refused("numbers(1, 4, 1)", of -> of.numbers(1, 4, 1), -2);
        refused("numbers(0, -1, 1)", of -> of.numbers(0, -1, 1), -2);
        for (int t = 0; t < 4; t++) {
            int tray = t;
            refused("numbers(" + t + ", 0, 41)", of -> of.numbers(tray, 0, 41), -3);
            refused("numbers(" + t + ", 3, -1)", of -> of.numbers(tray, 3, -1), -3);
        }
        refused("write(4, 0, 1)", of -> of.write(4, 0, 1), -2);
        refused("write(0, 0, 1)", of -> of.write(0, 0, 1), -6);
        refused("write(1, 13, 1)", of -> of.write(1, 13, 1), -7);
        refused("write(2, -1, 1)", of -> of.write(2, -1, 1), -7);
        refused("lists(4)", of -> of.lists(4), -2);
        refused("lists(0)", of -> of.lists(0), -6);
        refused("image(2)", of -> of.image(2), -2);
        refused("image(-1)", of -> of.image(-1), -2);
        refused("restore(2)", of -> of.restore(2), -2);
        refused("restore(-1)", of -> of.restore(-1), -2);
        refused("restore(1)", of -> of.restore(1), -5);
    }

    private static void noRing() {
        refused("-5: lists(0) without a RING", ringless(), ringless(), of -> of.lists(0), -5);
        refused("-5: lists(1) without a RING", ringless(), ringless(), of -> of.lists(1), -5);
        refused("-5: restore(0) of no IMAGE", ringless(), ringless(), of -> of.restore(0), -5);
        refused("-3: undo(1) of nothing", ringless(), ringless(), of -> of.undo(1), -3);
        refused("-3: works(1) of nothing", ringless(), ringless(), of -> of.works(1), -3);
        refused("0: a perform() that does nothing", ringless(), ringless(), of -> of.perform(1), 0);
    }

    private static void fullTape() {
        for (int i = 0; i < 2; i++) {
            CageLift one = filled(i);
            refused("-5: feed() onto a full TAPE", one, filled(i), of -> of.feed(-1, -1, -1, -1, -1), -5);
        }
    }

    /** Its text goes to the end of the tape, or ends with a fault there. */
    private static CageLift filled(int fault) {
        CageLift of = new CageLift();
        StringBuilder text = new StringBuilder(TAPED);
        while (text.length() < 899) text.append(' ');
        lay(of, text.append(fault == 1 ? "#" : " ").toString());
        return of;
    }

    private static void firstCode() {
        says("Of several codes that which the call tells first");
        x = rich();
        due("judge: what ahead of a MISSING TRAY", x.judge(0, 4), -2);
        due("judge", x.judge(4, 4), -2);
        due("works: n ahead of the text", x.works(BEYOND), -3);
        due("turn: no MEMBER ahead of a half's ORDER", x.turn(1, 6), -11);
        due("turn: no arc, no MEMBER", x.turn(3, 6), -11);
        due("neighbour: NODE ahead of i", x.neighbour(12, -1), -2);
        due("ball: NODE ahead of r", x.ball(-1, 100), -2);
        due("search: what ahead of d, g, n", x.search(9, 9, 99, 3), -2);
        due("chance: what ahead of k, n", x.chance(0, 9, 2), -2);
        due("mean: what ahead of n", x.mean(9, -1), -2);
        due("numbers: TRAY ahead of n", x.numbers(4, 0, 41), -2);
        due("numbers: sort ahead of n", x.numbers(0, 4, -1), -2);
        due("write: TRAY ahead of i", x.write(4, 99, 0), -2);
        due("write: a MISSING TRAY ahead of i", x.write(0, 99, 0), -6);
        due("walk: how many ahead of which", x.walk(1), -4);
        due("twists: how many ahead of which", x.twists(1), -4);
        due("undo: n and more than can be", x.undo(BELOW), -3);
        x = ringless();
        due("lists: TRAY ahead of no RING", x.lists(4), -2);
        due("lists: a MISSING TRAY ahead of no RING", x.lists(2), -6);
        due("restore: no such IMAGE ahead of none made", x.restore(2), -2);
        says("all these ahead of NONE");
        due("ring: no RING", x.ring(-1), -3);
        due("neighbour: not so many", x.neighbour(0, -1), -3);
        due("through: no RING", x.through(1), -2);
        due("far: no way", x.far(1, 0), -2);
        due("light: no way", x.light(0, 1), -2);
        due("found: it isn't FOUND", x.found(2, 4, 3, 3, 0), -3);
        due("tuned: no RING", x.tuned(0), -2);
        due("bound", x.bound(1, 13), -3);
        x = ringless();
        tray(0, 0, 0, 0);
        due("lifted: it doesn't end where it begins", x.lifted(0), -3);
        tray(0, 2, 9, 0);
        due("weigh: no TWIST is left", x.weigh(0), -3);
        tray(0, 2, 9, 1, 1, 1, 1, 1, 1, 1, 1);
        due("weigh: no TWIST is left", x.weigh(0), -4);
    }

    /** Calls that only ask change nothing either, whatever they try. */
    private static void askedOnly() {
        Call[] asking = {of -> of.girth(), of -> of.ring(0), of -> of.rings(6), of -> of.through(7), of -> of.excess(), of -> of.light(0, 11),
            of -> of.lightest(), of -> of.tune(0), of -> of.tuned(1), of -> of.tune(2), of -> of.search(3, 3, 6, 0), of -> of.found(3, 3, 6, 0, 1),
            of -> of.twists(3), of -> of.weigh(3), of -> of.chance(3, 2, 0), of -> of.mean(2, 1), of -> of.judge(1, 2), of -> of.judge(1, 3),
            of -> of.walk(2), of -> of.lifted(2), of -> of.diameter(), of -> of.parts(), of -> of.twoColours(), of -> of.regular(), of -> of.ball(0, 3),
            of -> of.neighbour(0, 0), of -> of.centre(), of -> of.count(5), of -> of.count(10), of -> of.fault(2), of -> of.joins(0, 1)};
        for (int i = 0; i < asking.length; i++) {
            says("judged as if done, all else as it is: asking changes nothing, call " + i);
            CageLift one = rich();
            long once = asking[i].ask(one);
            due("asked again", asking[i].ask(one), once);
            due("behind it the same", seen(one).equals(seen(rich())) ? 1 : 0, 1);
        }
    }
}
