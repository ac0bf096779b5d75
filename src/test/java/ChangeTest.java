/** What was asked ahead of a change doesn't strike behind it: each call that changes something, each one that asks. */
public final class ChangeTest extends Bench {
    private static final String TEXT = "works cyclic 6 twist 1;places 2;arc 0 0 by 1;arc 1 1 by 2;arc 0 1 by 0;keeps : arc < 2 or member < twist * 2;weighs : 1 + arc + twist;";

    private interface Change {
        void on(CageLift of);
    }

    public static void main(String[] args) {
        changes();
        lawsOfImages();
        ringsAndSpreading();
        crowded();
        end();
    }

    private static CageLift told() {
        CageLift of = new CageLift();
        lay(of, TEXT);
        of.works(TEXT.length());
        return of;
    }

    /** All that is asked of a network, as one text. */
    private static String seen(CageLift of) {
        StringBuilder b = new StringBuilder();
        int nodes = of.count(4);
        for (int i = 0; i < 7; i++) b.append(of.count(i)).append(' ');
        b.append(of.girth()).append(' ').append(of.lightest()).append(' ').append(of.regular()).append(' ').append(of.parts()).append(' ');
        b.append(of.twoColours()).append(' ').append(of.diameter()).append(' ').append(of.excess()).append(" rings ");
        for (int i = 1; i <= 6; i++) b.append(of.rings(i)).append(' ');
        for (int i = 0; i < 8; i++) b.append(of.ring(i)).append(' ');
        b.append("nodes ");
        for (int n = 0; n < nodes; n++) {
            b.append(of.degree(n)).append(' ').append(of.neighbour(n, 0)).append(' ').append(of.neighbour(n, 1)).append(' ');
            b.append(of.far(0, n)).append(' ').append(of.light(n, 0)).append(' ').append(of.joins(n, nodes - 1)).append(' ');
            b.append(of.through(n)).append(' ').append(of.ball(n, 2)).append(' ');
        }
        return b.append(of.chance(4, 1, 0)).append(' ').append(of.mean(1, 0)).append(' ').append(of.tune(0)).toString();
    }

    /** One object is asked ahead of the change, another isn't. */
    private static void alike(String what, Change change) {
        says("behind " + what + " all is told as it is then");
        CageLift asked = told();
        String ahead = seen(asked);
        due("asked twice", ahead.equals(seen(asked)) ? 1 : 0, 1);
        change.on(asked);
        CageLift fresh = told();
        change.on(fresh);
        String behind = seen(fresh);
        due("it changed something", ahead.equals(behind) ? 0 : 1, 1);
        due("as of one that wasn't asked", seen(asked).equals(behind) ? 1 : 0, 1);
    }

    private static void changes() {
        alike("turn()", of -> of.turn(0, 2));
        alike("cut()", of -> of.cut(0));
        alike("twist()", of -> of.twist(3));
        alike("works()", of -> {
            String other = "works cyclic 6 twist 1;places 2;arc 0 0 by 1;arc 1 1 by 2;arc 0 1 by 0;keeps : arc > 0;weighs : 9 - arc;";
            lay(of, other);
            of.works(other.length());
        });
        alike("works() without laws", of -> {
            String other = "works cyclic 6 twist 1;places 2;arc 0 0 by 1;arc 1 1 by 2;arc 0 1 by 0;";
            lay(of, other);
            of.works(other.length());
        });
        alike("perform()", of -> {
            of.numbers(0, 1, 2);
            of.write(0, 0, 14);
            of.write(0, 1, 101);
            of.perform(0);
        });
        alike("day()", of -> of.day(5, 40));
        Change[] deeds = {of -> of.turn(0, 3), of -> of.cut(1), of -> of.twist(0), of -> of.day(7, 30)};
        for (int i = 0; i < deeds.length; i++) {
            back("undo(), deed " + i, deeds[i], of -> of.undo(1));
            back("restore(), deed " + i, deeds[i], of -> of.restore(1));
        }
        says("behind judge(), tune(), chance() all is told as it is");
        CageLift of = told();
        String first = seen(of);
        of.numbers(0, 1, 3);
        of.write(0, 0, 100);
        of.write(0, 1, 13);
        of.write(0, 2, 1103);
        for (int what = 0; what < 4; what++) of.judge(0, what);
        of.tuned(1);
        of.chance(3, 2, 0);
        of.mean(2, 0);
        due(first.equals(seen(of)) ? 1 : 0, 1);
    }

    private static void back(String what, Change deed, Change undoing) {
        says("behind " + what + ", all is told as it was");
        CageLift of = told();
        of.image(1);
        String first = seen(of);
        deed.on(of);
        due("it changed something", first.equals(seen(of)) ? 0 : 1, 1);
        undoing.on(of);
        due("as it was", first.equals(seen(of)) ? 1 : 0, 1);
    }

    private static void lawsOfImages() {
        says("an IMAGE holds the laws, whatever was told between");
        on("works cyclic 2 twist 3;half 0 by 1;half 0 by 1;weighs : 7 + twist + arc;keeps : arc > 0;");
        x.image(0);
        due(tell("works cyclic 2 twist 3;half 0 by 1;half 0 by 1;keeps : 5 > 2 and 1 = 1 and 2 > 1;weighs : 30 + 1 + 1 + 1 + 1;"), 5);
        x.image(1);
        due(x.count(5), 2);
        due(x.light(0, 1), 34);
        due(x.restore(0), 0);
        due(x.count(5), 1);
        due(x.light(0, 1), 11);
        due(tell("works cyclic 2 twist 3;half 0 by 1;"), 2);
        due(x.light(0, 1), 1);
        due(x.restore(1), 0);
        due(x.count(5), 2);
        due(x.light(0, 1), 34);
        due(x.restore(0), 0);
        due(x.light(0, 1), 11);
        due(x.twist(9), 3);
        due(x.light(0, 1), 17);
        says("an IMAGE of a works without laws");
        on("works cyclic 2 twist 3;half 0 by 1;");
        x.image(0);
        due(tell("works cyclic 2 twist 3;half 0 by 1;keeps : 1 = 2;weighs : 8;"), 4);
        due(x.count(5), 0);
        due(x.restore(0), 0);
        due(x.count(5), 1);
        due(x.light(0, 1), 1);
    }

    private static void ringsAndSpreading() {
        says("what ring() looked for doesn't stand in the way of others");
        on("works cyclic 5 twist 0;arc 0 0 by 1;");
        for (int i = 0; i < 5; i++) due(x.ring(i), i);
        due(x.far(1, 4), 2);
        due(x.parts(), 1);
        due(x.diameter(), 2);
        due(x.through(3), 5);
        due(x.ball(2, 1), 3);
        due(x.twoColours(), 0);
        says("rings() of many LINKS, then of few, on one object");
        on("works cyclic 12 twist 0;arc 0 0 by 1;arc 0 0 by 2;arc 0 0 by 3;arc 0 0 by 4;arc 0 0 by 5;half 0 by 6;");
        due(x.rings(3), 220);
        due(x.rings(6), 924 * 60);
        for (int a = 0; a < 6; a++) if (a != 2) x.cut(a);
        due("three rings of four", x.rings(4), 3);
        due(x.rings(3), 0);
        due(x.rings(6), 0);
        x.turn(2, 2);
        due("two rings of six", x.rings(6), 2);
        due(x.rings(4), 0);
        x.cut(1);
        due("each twice", x.rings(2), 12);
        due(x.rings(6), 2 * 64);
    }

    private static void crowded() {
        says("as many LINKS as there can be, 144, on sixty NODES and on twelve");
        StringBuilder b = new StringBuilder("works cyclic 12 twist 0;places 5;");
        for (int p = 0; p < 4; p++) for (int g = 0; g < 3; g++) b.append("arc ").append(p).append(' ').append(p + 1).append(" by ").append(g).append(';');
        on(b.toString());
        due(x.count(5), 144);
        due(x.girth(), 4);
        due(x.light(0, 48), 4);
        due(x.lightest(), 4);
        due(x.parts(), 1);
        due(x.twoColours(), 1);
        due(x.degree(59), 3);
        due(x.degree(30), 6);
        due(x.regular(), -1);
        due(x.rings(3), 0);
        due("as by 0 1 and 1 2 of two sides", x.rings(4) > 0 ? 1 : 0, 1);
        due(x.through(59), 4);
        on("works cyclic 12 twist 0;" + "arc 0 0 by 0;".repeat(12));
        due(x.count(5), 144);
        due(x.degree(11), 24);
        due(x.rings(1), 144);
        due(x.girth(), 1);
        due(x.joins(11, 11), 12);
        due(x.lightest(), 1);
        due(x.light(0, 11), -1);
        due(x.parts(), 12);
        due(x.ring(0), 0);
        due(x.rings(2), 0);
    }
}
