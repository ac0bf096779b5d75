/** Edges of THE WORKS, its TOKENS, its FAULTS, and of promises 1 to 5: the last that is taken, the first that isn't. */
public final class TextEdgeTest extends Bench {
    private static final String ONE = "works cyclic 1 twist 0;";
    private static final String TWO = "works cyclic 2 twist 0;";
    private static final int BEYOND = Integer.MAX_VALUE;
    private static final int BELOW = Integer.MIN_VALUE;

    public static void main(String[] args) {
        newObject();
        feed();
        works();
        fault();
        arc();
        fullText();
        kinds();
        twists();
        places();
        arcs();
        halves();
        thirteenth();
        laterLaws();
        bytes();
        numbers();
        words();
        firstFault();
        truths();
        theEnd();
        nesting();
        nestingAside();
        end();
    }

    private static void newObject() {
        says("Promise 1: a group of one, one PLACE, no ARCS (without a text: group cyclic 1, TWIST 0)");
        int[] counts = {1, 0, 1, 0, 1, 0, 0, 0, 0, 0};
        for (int i = 0; i < 10; i++) due("count(" + i + ")", x.count(i), counts[i]);
        due(x.product(0, 0), 0);
        due(x.product(0, 1), -2);
        due(x.inverse(0), 0);
        due(x.inverse(1), -2);
        due(x.orderOf(0), 1);
        due(x.orderOf(1), -2);
        due(x.centre(), 1);
        due(x.arc(0, 0), -2);
        due(x.turn(0, 0), -11);
        due(x.cut(0), -11);
        due(x.joins(0, 0), 0);
        due(x.degree(1), -2);
        says("Use: an object is used for at most 512 calls");
        on("works cyclic 5 twist 0;arc 0 0 by 1;");
        int used = 3;
        while (used < 511) {
            due(x.turn(0, used % 5), (used == 3 ? 1 : (used - 1) % 5));
            used++;
        }
        due("the 512th call", x.arc(0, 2), 510 % 5);
    }

    private static void feed() {
        says("Promise 2: twenty bytes come behind those on THE TAPE, the highest of each int first");
        for (int i = 0; i < 20; i++) {
            x = new CageLift();
            due(x.feed(0x20202020, 0x20202020, 0x20202020, 0x20202020, 0x20202020), 20);
            int[] v = new int[5];
            for (int j = 0; j < 20; j++) v[j / 4] = v[j / 4] << 8 | (j < i ? 32 : 255);
            due(x.feed(v[0], v[1], v[2], v[3], v[4]), 40);
            due(x.works(40), -31);
            due("the first byte that isn't blank", x.fault(1), 20 + i);
        }
        says("Promise 2: how many it has; -5: it would have more than 900");
        String text = full("works cyclic 7 twist 0;", " ", "");
        lay(text);
        due(x.count(8), 900);
        for (int i = 0; i < 3; i++) due(x.feed(-1, -1, -1, -1, -1), -5);
        due(x.count(8), 900);
        due("nothing of what was refused is there", x.works(900), 1);
        due(x.count(2), 7);
        due("behind works() there is room again", x.feed(1, 2, 3, 4, 5), 20);
        says("Promise 2: the 45th feed is the last that is taken");
        for (int i = 1; i <= 45; i++) due(x.feed(0, 0, 0, 0, 0), 20 * i);
        due(x.feed(0, 0, 0, 0, 0), -5);
    }

    private static void works() {
        says("Promise 3: -3: n is below 0 or above what there is (THE TAPE stays)");
        due("nothing is there", x.works(1), -3);
        lay(TWO);
        for (int n : new int[] {-1, BELOW, 41, 60, 900, 901, BEYOND}) {
            due("works(" + n + ")", x.works(n), -3);
            due(x.count(8), 40);
        }
        due(x.works(40), 1);
        due(x.count(2), 2);
        due(x.works(1), -3);
        says("Promise 3: the first n bytes: none of them");
        lay(TWO);
        due(x.works(0), -32);
        due(x.fault(1), 0);
        due(x.count(8), 0);
        due("without a tape too", x.works(0), -32);
        says("Promise 3: the first n bytes, THE TAPE is empty then: what lies behind is gone");
        lay(TWO + "arc 0 0 by 1;");
        due(x.works(TWO.length()), 1);
        due(x.count(1), 0);
        due(x.count(8), 0);
        due(x.works(1), -3);
        lay(TWO);
        due("a FAULT empties it too", x.works(5), -32);
        due(x.count(8), 0);
        says("Promise 3: nothing is CUT, nothing can be UNDONE");
        on(TWO + "arc 0 0 by 1;");
        x.cut(0);
        x.turn(0, 0);
        due(tell(TWO + "arc 0 0 by 1;"), 2);
        due(x.count(6), 0);
        due(x.arc(0, 4), 0);
        due(x.arc(0, 2), 1);
        due(x.count(7), 0);
        due(x.undo(1), -3);
        says("Promise 3: how many LINES (works, too)");
        due(tell(ONE), 1);
        due(tell(ONE + "places 1;arc 0 0 by 0;keeps : 1 = 1;weighs : 1;keeps : 1 = 1;"), 6);
        due(x.count(9), 6);
        StringBuilder many = new StringBuilder(ONE);
        for (int i = 0; i < 85; i++) many.append("weighs:1; ");
        due("many laws", tell(many.toString()), 86);
        says("Promise 3: all stays with a FAULT");
        on("works mirrors 3 twist 4;places 2;arc 0 1 by 2;half 1 by 3;weighs : 5;");
        x.cut(1);
        x.twist(8);
        faultAtMark("works cyclic 9 twist 1;places 3;arc 0 2 by 0;arc 0 2 by 0;arc 0 2 by 0;weighs : 7;keeps : 1 = 2;^!", 1);
        int[] counts = {2, 2, 6, 8, 12, 6, 2, 2, 0, 5};
        for (int i = 0; i < 10; i++) due("count(" + i + ")", x.count(i), counts[i]);
        due(x.arc(0, 2), 2);
        due(x.arc(1, 3), 1);
        due(x.light(0, 8), 5);
        due(x.product(1, 2), 0);
        due(x.undo(2), 0);
        due(x.count(3), 4);
        due(x.count(6), 0);
    }

    private static void fault() {
        says("Promise 4: of the latest works() that was read: its FAULT (0), its place (NONE); NONE for others");
        int[] others = {-1, 2, 3, BELOW, BEYOND};
        due(x.fault(0), 0);
        due(x.fault(1), -1);
        for (int what : others) due("fault(" + what + ")", x.fault(what), -1);
        faultAtMark("works cyclic ^13 twist 0;", 3);
        for (int what : others) due("fault(" + what + ")", x.fault(what), -1);
        due("refused by -3, so it isn't read", x.works(1), -3);
        due(x.works(-1), -3);
        due(x.fault(0), 3);
        due(x.fault(1), 13);
        good(ONE, 1);
    }

    private static void arc() {
        says("Promise 5: -2: no such arc, no such what");
        on("works mirrors 2 twist 0;places 5;arc 4 3 by 3;half 4 by 1;");
        int[][] told = {{4, 3, 3, 0, 0}, {4, 4, 1, 1, 0}};
        for (int a = 0; a < 2; a++) for (int what = 0; what < 5; what++) due("arc(" + a + ", " + what + ")", x.arc(a, what), told[a][what]);
        for (int a : new int[] {-1, 2, 12, BELOW, BEYOND}) due("arc(" + a + ", 0)", x.arc(a, 0), -2);
        for (int what : new int[] {-1, 5, BELOW, BEYOND}) due("arc(0, " + what + ")", x.arc(0, what), -2);
        says("Promise 5: the last of twelve arcs");
        on(TWO + "arc 0 0 by 0;".repeat(11) + "arc 0 0 by 1;");
        due(x.arc(11, 2), 1);
        due(x.arc(12, 2), -2);
        x.cut(11);
        due(x.arc(11, 4), 1);
        due(x.arc(10, 4), 0);
    }

    /** A text of 900 bytes: a beginning, pieces as long as they fit, an end, blanks. */
    private static String full(String begin, String piece, String end) {
        StringBuilder b = new StringBuilder(begin);
        while (b.length() + piece.length() + end.length() <= 900) b.append(piece);
        b.append(end);
        while (b.length() < 900) b.append('\n');
        return b.toString();
    }

    private static void fullText() {
        says("THE WORKS: a TEXT of at most 900 bytes: one of 900 is read to its end");
        String head = TWO + "half 0 by 1;";
        on(full(head + "weighs:0", "+0", "+7;"));
        due(x.light(0, 1), 7);
        on(full(head + "weighs:7", "*1", ";"));
        due(x.light(0, 1), 7);
        on(full(head + "keeps:1=1", "and 1=1", "and 1=2;"));
        due(x.count(5), 0);
        on(full(head + "keeps:1=2", "or 1=2", "or 1=1;"));
        due(x.count(5), 1);
        on(full(head + "weighs:", "0;weighs:", "7;"));
        due(x.light(0, 1), 7);
        says("THE WORKS: a TEXT of at most 900 bytes: a FAULT at the last one, and behind it");
        String blank = full(ONE, " ", "");
        faultAtMark(blank.substring(0, 899) + "^#", 1);
        faultAtMark(blank.substring(0, 899) + "^1", 2);
        faultAtMark(blank.substring(0, 890) + "places   1^", 2);
        good(blank.substring(0, 890) + "places  1;", 2);
        for (String word : new String[] {"w", "wor", "pla", "place", "hal", "quaternion", "o", "x"}) {
            faultAtMark(blank.substring(0, 900 - word.length()) + "^" + word, 2);
        }
        faultAtMark(blank.substring(0, 894) + "places^", 2);
        says("one text behind the other: each has all the room");
        for (int i = 0; i < 9; i++) {
            due(tell(full(head + "weighs:0", "+0", "+" + (i + 3) + ";")), 3);
            due("text " + i, x.light(0, 1), i + 3);
        }
    }

    private static void kinds() {
        says("works: cyclic: its ORDER, 1 to 12");
        for (int n = 1; n <= 12; n++) sized("cyclic " + n, n);
        for (String n : new String[] {"0", "13", "00", "000", "99", "120", "999"}) faultAtMark("works cyclic ^" + n + " twist 0;", 3);
        says("works: mirrors: 1 to 6 turns");
        for (int n = 1; n <= 6; n++) sized("mirrors " + n, 2 * n);
        for (String n : new String[] {"0", "7", "8", "12", "999"}) faultAtMark("works mirrors ^" + n + " twist 0;", 3);
        says("works: product: two numbers, 1 to 12, times one another 12 at most (FAULT 3 of a product: the second one)");
        for (int a = 1; a <= 12; a++) {
            x = new CageLift();
            for (int b = 1; b <= 13; b++) {
                if (a * b <= 12) sized("product " + a + " " + b, a * b);
                else faultAtMark("works product " + a + " ^" + b + " twist 0;", 3);
            }
            faultAtMark("works product " + a + " ^0 twist 0;", 3);
        }
        for (String n : new String[] {"0", "13", "999"}) {
            faultAtMark("works product ^" + n + " 1 twist 0;", 3);
            faultAtMark("works product ^" + n + " 0 twist 0;", 3);
            faultAtMark("works product ^" + n + " x", 3);
        }
        faultAtMark("works product 3 ^twist 0;", 2);
        says("works: quaternions have no number, cyclic and mirrors one, a product two");
        sized("quaternions", 8);
        faultAtMark("works quaternions ^8 twist 0;", 2);
        faultAtMark("works cyclic 3 ^4 twist 0;", 2);
        faultAtMark("works mirrors 3 ^2 twist 0;", 2);
        faultAtMark("works product 3 2 ^1 twist 0;", 2);
        faultAtMark("works cyclic ^twist 0;", 2);
        faultAtMark("works ^3 twist 0;", 2);
        faultAtMark("works ^twist 0;", 2);
    }

    private static void sized(String kind, int size) {
        good("works " + kind + " twist 0;", 1);
        due("the size of " + kind, x.count(2), size);
        due("its last MEMBER", x.inverse(size - 1) >= 0 ? 1 : 0, 1);
        due("no MEMBER any more", x.inverse(size), -2);
    }

    private static void twists() {
        says("works: the TWIST, 0 to 9");
        for (int t = 0; t <= 9; t++) {
            good("works cyclic 1 twist " + t + ";", 1);
            due(x.count(3), t);
        }
        for (String t : new String[] {"10", "11", "100", "999"}) faultAtMark("works cyclic 1 twist ^" + t + ";", 3);
        due("the last good one", x.count(3), 9);
        faultAtMark("works cyclic 1 ^0;", 2);
        faultAtMark("works cyclic 1 twist ^;", 2);
        faultAtMark("works cyclic 1 twist 1 ^1;", 2);
    }

    private static void places() {
        says("places: how many, 1 to 5");
        for (int n = 1; n <= 5; n++) {
            good(ONE + "places " + n + ";", 2);
            due(x.count(0), n);
        }
        for (String n : new String[] {"0", "6", "12", "999"}) faultAtMark(ONE + "places ^" + n + ";", 3);
        says("places: told once at most (FAULT 2: a second time)");
        faultAtMark(ONE + "places 2;^places 2;", 2);
        faultAtMark(ONE + "places 2;keeps : 1 = 1;^places 9;", 2);
        says("places: ahead of all arcs (FAULT 2: behind an arc)");
        faultAtMark(ONE + "arc 0 0 by 0;^places 2;", 2);
        faultAtMark(TWO + "half 0 by 1;^places 2;", 2);
        faultAtMark(ONE + "places 1;arc 0 0 by 0;^places 1;", 2);
        good(ONE + "keeps : 1 = 1;weighs : 3;places 2;arc 1 1 by 0;", 5);
        says("places: else there is 1");
        good(ONE + "arc 0 0 by 0;", 2);
        due(x.count(0), 1);
        faultAtMark(ONE + "arc 0 ^1 by 0;", 3);
        says("places: a FAULT in one text is no telling in the next");
        faultAtMark(ONE + "places ^6;", 3);
        good(ONE + "places 3;", 2);
        faultAtMark(ONE + "places 3;^#", 1);
        good(ONE + "places 4;arc 3 3 by 0;", 3);
    }

    private static void arcs() {
        says("arc: from which PLACE to which");
        for (int n = 1; n <= 5; n++) {
            String head = ONE + "places " + n + ";";
            good(head + "arc " + (n - 1) + " 0 by 0;arc 0 " + (n - 1) + " by 0;arc " + (n - 1) + " " + (n - 1) + " by 0;", 5);
            due(x.arc(0, 0), n - 1);
            due(x.arc(1, 1), n - 1);
            faultAtMark(head + "arc ^" + n + " 0 by 0;", 3);
            faultAtMark(head + "arc 0 ^" + n + " by 0;", 3);
            faultAtMark(head + "arc ^" + n + " " + n + " by 9;", 3);
        }
        says("arc: its VOLTAGE, a MEMBER");
        String[] kinds = {"cyclic 1", "cyclic 12", "mirrors 1", "mirrors 6", "product 2 3", "product 1 1", "quaternions"};
        int[] sizes = {1, 12, 2, 12, 6, 1, 8};
        for (int i = 0; i < kinds.length; i++) {
            String head = "works " + kinds[i] + " twist 0;";
            good(head + "arc 0 0 by 0;arc 0 0 by " + (sizes[i] - 1) + ";", 3);
            due(x.arc(1, 2), sizes[i] - 1);
            faultAtMark(head + "arc 0 0 by ^" + sizes[i] + ";", 3);
            faultAtMark(head + "arc 0 0 by ^999;", 3);
        }
        says("arc N N by N: each part must stand there");
        faultAtMark(ONE + "arc ^by 0;", 2);
        faultAtMark(ONE + "arc 0 ^by 0;", 2);
        faultAtMark(ONE + "arc 0 0 ^0;", 2);
        faultAtMark(ONE + "arc 0 0 by ^;", 2);
        faultAtMark(ONE + "arc 0 0 by 0 ^0;", 2);
        faultAtMark(ONE + "arc 0 0 ^0 by 0;", 2);
        faultAtMark(ONE + "arc 0 0 ^twist 0;", 2);
    }

    private static void halves() {
        says("half: of a PLACE");
        good(TWO + "places 5;half 4 by 1;half 0 by 1;", 4);
        due(x.arc(0, 0), 4);
        due(x.arc(0, 1), 4);
        faultAtMark(TWO + "places 5;half ^5 by 1;", 3);
        faultAtMark(TWO + "half ^1 by 1;", 3);
        faultAtMark(TWO + "half 0 ^0 by 1;", 2);
        faultAtMark(TWO + "half ^by 1;", 2);
        faultAtMark(TWO + "half 0 ^1;", 2);
        says("half: its VOLTAGE, a MEMBER of ORDER 2 (FAULT 3: a MEMBER not of ORDER 2)");
        for (int n = 1; n <= 12; n++) for (int g = 0; g <= n; g++) half("cyclic " + n, g, g < n && g > 0 && 2 * g == n);
        for (int n = 1; n <= 6; n++) for (int g = 0; g <= 2 * n; g++) half("mirrors " + n, g, g < 2 * n && (g >= n || g > 0 && 2 * g == n));
        for (int g = 0; g <= 8; g++) half("quaternions", g, g == 4);
        for (int g = 0; g <= 12; g++) half("product 2 6", g, g == 3 || g == 6 || g == 9);
        for (int g = 0; g <= 9; g++) half("product 3 3", g, false);
        for (int g = 0; g <= 12; g++) half("product 6 2", g, g == 1 || g == 6 || g == 7);
    }

    private static void half(String kind, int g, boolean taken) {
        x = new CageLift();
        String head = "works " + kind + " twist 0;half 0 by ";
        if (taken) good(head + g + ";", 2);
        else faultAtMark(head + "^" + g + ";", 3);
    }

    private static void thirteenth() {
        says("numbered from 0 on, both together, 12 at most (FAULT 4: the first TOKEN of a 13th arc)");
        String[] twelves = {"arc 0 0 by 1;".repeat(12), "half 0 by 1;".repeat(12), "arc 0 0 by 1;half 0 by 1;".repeat(6)};
        for (String twelve : twelves) {
            good(TWO + twelve, 13);
            due(x.count(1), 12);
            faultAtMark(TWO + twelve + "^arc 0 0 by 1;", 4);
            faultAtMark(TWO + twelve + "^half 0 by 1;", 4);
            faultAtMark(TWO + twelve + "^arc", 4);
            faultAtMark(TWO + twelve + "^half 0 by 0;", 4);
            faultAtMark(TWO + twelve + "^places 1;", 2);
            faultAtMark(TWO + twelve + "^1000", 1);
            good(TWO + twelve + "weighs : arc;keeps : arc = 11;", 15);
            due(x.count(5), twelve.endsWith("half 0 by 1;") ? 1 : 2);
        }
        says("12 at most: of each text by itself");
        good(TWO + "arc 0 0 by 1;".repeat(12), 13);
        good(TWO + "arc 0 0 by 1;".repeat(12), 13);
        due(x.count(1), 12);
    }

    private static void laterLaws() {
        says("Later ones of keeps, weighs strike");
        on(TWO + "weighs : 3;half 0 by 1;keeps : 1 = 2;weighs : 4;");
        due(x.count(5), 0);
        on(TWO + "weighs : 3;half 0 by 1;keeps : 1 = 2;weighs : 4;keeps : 1 = 1;");
        due(x.count(5), 1);
        due(x.light(0, 1), 4);
        on(TWO + "keeps : 1 = 1;weighs : 6;half 0 by 1;keeps : 2 < 1;");
        due(x.count(5), 0);
        says("Without a law: always kept, weighs 1; a law of another text is gone");
        on(TWO + "half 0 by 1;keeps : 1 = 2;weighs : 9;");
        due(tell(TWO + "half 0 by 1;"), 2);
        due(x.count(5), 1);
        due(x.light(0, 1), 1);
        due("keeps tells nothing of weights", tell(TWO + "half 0 by 1;keeps : 7 > 2;"), 3);
        due(x.light(0, 1), 1);
        due("weighs tells nothing of what is kept", tell(TWO + "half 0 by 1;weighs : 0;"), 3);
        due(x.count(5), 1);
        due(tell(TWO + "half 0 by 1;weighs : 1 + 2 + 3 + 4 + 5 + 6;keeps : 2 > 1;"), 4);
        due(x.count(5), 1);
        due(x.light(0, 1), 21);
        due(tell(TWO + "half 0 by 1;keeps : 1 = 2;"), 3);
        due(x.count(5), 0);
        due(tell(TWO + "half 0 by 1;"), 2);
        due(x.count(5), 1);
        due(x.light(0, 1), 1);
        says("half, arc: of each text by itself");
        on(TWO + "places 2;half 1 by 1;half 0 by 1;");
        due(x.arc(0, 3), 1);
        due(tell(TWO + "arc 0 0 by 1;half 0 by 1;"), 3);
        due(x.arc(0, 3), 0);
        due(x.arc(1, 3), 1);
        due(x.count(5), 3);
        due(x.count(0), 1);
    }

    private static void bytes() {
        says("TOKENS: between them blanks (10, 32); words of small letters; N; the signs; 1 no TOKEN begins so");
        String signs = ";:+-*()[]=<>";
        for (int b = 0; b < 256; b++) {
            x = new CageLift();
            char c = (char) b;
            boolean small = c >= 'a' && c <= 'z';
            boolean digit = c >= '0' && c <= '9';
            boolean blank = b == 10 || b == 32;
            String behind = ONE + c;
            if (blank) good(behind, 1);
            else faulty(behind, small || digit || signs.indexOf(c) >= 0 ? 2 : 1, ONE.length());
            // Right behind a word, ahead of another one.
            String within = "works" + c + "cyclic 1 twist 0;";
            if (blank) good(within, 1);
            else faulty(within, small || digit || signs.indexOf(c) >= 0 ? 2 : 1, small ? 0 : 5);
            // Right behind an N, which goes on with digits alone.
            String number = "works cyclic 1" + c + " twist 0;";
            if (blank || c >= '0' && c <= '2') good(number, 1);
            else faulty(number, digit ? 3 : small || signs.indexOf(c) >= 0 ? 2 : 1, digit ? 13 : 14);
            String inLaw = TWO + "weighs : 2 " + c;
            if (blank) faulty(inLaw, 2, inLaw.length());
            else if (c == ';') good(inLaw, 2);
            else if (c == '+' || c == '-' || c == '*') faulty(inLaw, 2, inLaw.length());
            else faulty(inLaw, small || digit || signs.indexOf(c) >= 0 ? 2 : 1, inLaw.length() - 1);
        }
    }

    private static void numbers() {
        says("TOKENS: N (1 to 3 digits); 1: 4 digits and more: at their first");
        good("works cyclic 3 twist 0;", 1);
        good("works cyclic 03 twist 00;", 1);
        good("works cyclic 003 twist 000;", 1);
        due(x.count(2), 3);
        faultAtMark("works cyclic ^0003 twist 0;", 1);
        faultAtMark("works cyclic 3 twist ^0000;", 1);
        faultAtMark("works cyclic ^00003 twist 0;", 1);
        faultAtMark("works ^1000", 1);
        faultAtMark("^1000", 1);
        faultAtMark("^100", 2);
        faultAtMark(ONE + "weighs : 1 + ^1000;", 1);
        faultAtMark(ONE + "weighs : 999 ^1000;", 1);
        faultAtMark(ONE + "weighs : 999 ^999;", 2);
        faultAtMark(ONE + "weighs : ^" + "9".repeat(860) + ";", 1);
        faultAtMark(ONE + "weighs : ^" + "0".repeat(868), 1);
        good(ONE + "weighs : 999;keeps : 000 = 0;", 3);
        says("TOKENS, as long as they go on: digits and letters part, signs are one byte each");
        good("works cyclic 1twist 0;arc 0 0by 0;weighs:if 1<2then 3else(4)end;", 3);
        due(x.lightest(), 3);
        faultAtMark("works cyclic 1 twist0 ^0;", 2);
        faultAtMark("works cyclic1twist0^x;", 2);
        faultAtMark(ONE + "keeps : 1 =^= 1;", 2);
        faultAtMark(ONE + "keeps : 1 <^> 1;", 2);
        faultAtMark(ONE + "keeps : 1 <^= 1;", 2);
        faultAtMark(ONE + "weighs : 1 -^- 1;", 2);
    }

    private static void words() {
        says("TOKENS: words (small letters), as long as they go on; those of no meaning can't stand anywhere");
        faultAtMark("^workscyclic 1 twist 0;", 2);
        faultAtMark("works ^cyclics 1 twist 0;", 2);
        faultAtMark("works ^cycli 1 twist 0;", 2);
        faultAtMark("works ^c 1 twist 0;", 2);
        faultAtMark("works cyclic 1 ^twisttwist 0;", 2);
        faultAtMark("^Works cyclic 1 twist 0;", 1);
        faultAtMark("works ^Cyclic 1 twist 0;", 1);
        faultAtMark("works ^cycliC 1 twist 0;", 2);
        for (String word : "works twist places arc half by keeps weighs if then else end from to member not and or dihedral".split(" ")) {
            faultAtMark("works ^" + word + " 3 twist 0;", 2);
            faultAtMark("works cyclic 3 ^" + (word.equals("twist") ? "twists" : word) + " 0;", 2);
        }
        for (String word : "works cyclic mirrors product quaternions twist by if then else end from to member not and or ends a z".split(" ")) {
            faultAtMark(ONE + "^" + word + " 0 0 by 0;", 2);
        }
        for (String word : "works cyclic mirrors product quaternions places half by keeps weighs then else end not and or x".split(" ")) {
            faultAtMark(ONE + "weighs : ^" + word + ";", 2);
        }
        faultAtMark(ONE + "weighs : member^1;", 2);
        for (String word : "arc from to member twist".split(" ")) {
            good(TWO + "half 0 by 1;weighs : " + word + ";", 3);
            good(TWO + "half 0 by 1;keeps : " + word + " < 1;", 3);
        }
    }

    private static void firstFault() {
        says("FAULTS, the first along the text");
        faultAtMark("works cyclic ^0 twist 10;#", 3);
        faultAtMark("works cyclic 1 twist ^10;#", 3);
        faultAtMark("works cyclic 1 ^# twist 10;", 1);
        faultAtMark(ONE + "arc ^7 8 by 9;1000", 3);
        faultAtMark(ONE + "arc 0 ^8 by 9;1000", 3);
        faultAtMark(ONE + "arc 0 0 by ^9;1000", 3);
        faultAtMark(ONE + "arc 0 0 ^bi 9;1000", 2);
        says("FAULTS, of one TOKEN the least kind");
        faultAtMark("works cyclic ^1000 twist 0;", 1);
        faultAtMark("works ^13", 2);
        faultAtMark("works quaternions ^13 twist 0;", 2);
        faultAtMark(TWO + "half 0 ^9 by 1;", 2);
        faultAtMark(TWO + "half 0 by ^1000;", 1);
        faultAtMark(TWO + "arc 0 0 by 1;".repeat(12) + "^arcs", 2);
        faultAtMark(TWO + "arc 0 0 by 1;".repeat(11) + "arc 0 0 by 1 ^arc 0 0 by 1;", 2);
        faultAtMark(TWO + "weighs : ((((((1 ^(", 2);
        faultAtMark(TWO + "keeps : [[[[[[1 ^[", 2);
        faultAtMark(TWO + "keeps : [[[[[[1 = ^[", 2);
        faultAtMark(TWO + "keeps : [[[[[[1 ^not", 2);
        faultAtMark(TWO + "keeps : [[[[[[1 + ^not", 2);
        faultAtMark(TWO + "weighs : ((((((1 ^if", 2);
        says("2: works must be told first, and once");
        faultAtMark("^arc 0 0 by 0;" + ONE, 2);
        faultAtMark("^places 1;" + ONE, 2);
        faultAtMark("^;" + ONE, 2);
        faultAtMark(ONE + "^" + ONE, 2);
        faultAtMark(ONE + "places 1;^works", 2);
        faultAtMark(ONE + "^;", 2);
    }

    private static void truths() {
        says("UNIT: not UNIT, [ TRUTH ], or SUM, one of = < >, SUM: what lacks can't stand there");
        faultAtMark(TWO + "keeps : 1^;", 2);
        faultAtMark(TWO + "keeps : not 1^;", 2);
        faultAtMark(TWO + "keeps : 1 = 1 and 2^;", 2);
        faultAtMark(TWO + "keeps : 1 = 1 or 2^;", 2);
        faultAtMark(TWO + "keeps : [1^];", 2);
        faultAtMark(TWO + "keeps : [1 = 1^;", 2);
        faultAtMark(TWO + "keeps : [1 = 1]^];", 2);
        faultAtMark(TWO + "keeps : ^];", 2);
        faultAtMark(TWO + "keeps : ^;", 2);
        faultAtMark(TWO + "keeps : 1 + ^;", 2);
        faultAtMark(TWO + "keeps : ^= 1;", 2);
        faultAtMark(TWO + "keeps : 1 = ^;", 2);
        faultAtMark(TWO + "keeps : 1 = 1 ^= 1;", 2);
        faultAtMark(TWO + "keeps : 1 = 1 ^1 = 1;", 2);
        faultAtMark(TWO + "keeps : 1 = 1 ^not 1 = 1;", 2);
        faultAtMark(TWO + "keeps : ^and 1 = 1;", 2);
        faultAtMark(TWO + "keeps : (1 ^= 1);", 2);
        faultAtMark(TWO + "keeps : [1 = 1] ^= 1;", 2);
        says("SUM, TERM, ATOM: what lacks can't stand there");
        faultAtMark(TWO + "weighs : ^;", 2);
        faultAtMark(TWO + "weighs : 1 + ^;", 2);
        faultAtMark(TWO + "weighs : ^- 1;", 2);
        faultAtMark(TWO + "weighs : ^+ 1;", 2);
        faultAtMark(TWO + "weighs : ^* 1;", 2);
        faultAtMark(TWO + "weighs : 1 * ^- 1;", 2);
        faultAtMark(TWO + "weighs : (^);", 2);
        faultAtMark(TWO + "weighs : (1^;", 2);
        faultAtMark(TWO + "weighs : 1^);", 2);
        faultAtMark(TWO + "weighs : ^[1 = 1];", 2);
        faultAtMark(TWO + "weighs : 1 ^= 1;", 2);
        faultAtMark(TWO + "weighs : if 1 = 1 then 2^;", 2);
        faultAtMark(TWO + "weighs : if 1 = 1 then 2 else 3^;", 2);
        faultAtMark(TWO + "weighs : if 1 = 1 ^else 3 end;", 2);
        faultAtMark(TWO + "weighs : if 1 ^then 2 else 3 end;", 2);
        faultAtMark(TWO + "weighs : if 1 = 1 then 2 ^end;", 2);
        faultAtMark(TWO + "weighs : if 1 = 1 then ^else 3 end;", 2);
        faultAtMark(TWO + "weighs : if 1 = 1 then 2 else ^end;", 2);
        faultAtMark(TWO + "weighs : 1 ^end;", 2);
        says("keeps : TRUTH, weighs : SUM: the sign between them");
        faultAtMark(TWO + "keeps ^1 = 1;", 2);
        faultAtMark(TWO + "weighs ^1;", 2);
        faultAtMark(TWO + "keeps :^: 1 = 1;", 2);
        good(TWO + "keeps:1=1;weighs:1;", 3);
    }

    private static void theEnd() {
        says("2 it can't stand there (the end: the text's length)");
        String[] cut = {"", "works", "works cyclic", "works cyclic 1", "works cyclic 1 twist", "works cyclic 1 twist 0", "works product",
            "works product 2", "works mirrors", "works quaternions", ONE + "places", ONE + "places 2", ONE + "arc", ONE + "arc 0",
            ONE + "arc 0 0", ONE + "arc 0 0 by", ONE + "arc 0 0 by 0", TWO + "half", TWO + "half 0", TWO + "half 0 by", TWO + "half 0 by 1",
            ONE + "keeps", ONE + "keeps :", ONE + "keeps : 1", ONE + "keeps : 1 =", ONE + "keeps : 1 = 1", ONE + "keeps : not",
            ONE + "keeps : [", ONE + "keeps : [ 1 = 1", ONE + "keeps : 1 = 1 and", ONE + "keeps : 1 = 1 or", ONE + "weighs",
            ONE + "weighs :", ONE + "weighs : 1", ONE + "weighs : 1 +", ONE + "weighs : 1 *", ONE + "weighs : (", ONE + "weighs : (1",
            ONE + "weighs : if", ONE + "weighs : if 1 = 1", ONE + "weighs : if 1 = 1 then", ONE + "weighs : if 1 = 1 then 2",
            ONE + "weighs : if 1 = 1 then 2 else", ONE + "weighs : if 1 = 1 then 2 else 3", ONE + "weighs : if 1 = 1 then 2 else 3 end"};
        for (String text : cut) {
            x = new CageLift();
            faultAtMark(text + "^", 2);
            faultAtMark(text + " \n ^", 2);
        }
        says("the end: of the first n bytes, whatever lies behind on THE TAPE");
        lay(ONE);
        due(x.works(ONE.length() - 1), -32);
        due(x.fault(1), ONE.length() - 1);
        lay("works cyclic 12 twist 3;");
        due("a TOKEN ends there too", x.works(14), -32);
        due(x.fault(1), 14);
        lay(ONE);
        due("half a word", x.works(3), -32);
        due(x.fault(1), 0);
        lay(ONE);
        due("a word but for its last letter", x.works(4), -32);
        due(x.fault(1), 0);
        lay(ONE);
        due("another one", x.works(19), -32);
        due(x.fault(1), 15);
        lay(ONE + "#");
        due(x.works(ONE.length()), 1);
        lay("works cyclic 1 twist 0001;");
        due("of four digits three", x.works(24), -32);
        due(x.fault(1), 24);
    }

    private static void nesting() {
        says("At most six of not [ ( if within one another (FAULT 4: a seventh)");
        nested("keeps : ", "not ", "1 = 1", "", ";");
        nested("keeps : ", "[", "1 = 1", "]", ";");
        nested("keeps : ", "(", "1", ")", "= 1;");
        nested("keeps : 1 = ", "(", "1", ")", ";");
        nested("weighs : ", "(", "1", ")", ";");
        nested("weighs : 2 * ", "(1 + ", "1", ")", ";");
        nested("weighs : ", "if 1 = 1 then ", "1", " else 2 end", ";");
        nested("weighs : ", "if 1 = 1 then 1 else ", "2", " end", ";");
        nested("weighs : ", "if ", "3", " = 3 then 1 else 2 end", ";");
        nested("keeps : ", "if ", "3", " = 3 then 1 else 2 end", "= 1;");
        says("a seventh, of any of them within any of the others");
        String[] truths = {"not ", "["};
        String[] sums = {"(", "if "};
        for (int of = 0; of < 64; of++) {
            StringBuilder opened = new StringBuilder();
            boolean sum = false;
            for (int i = 0; i < 6; i++) {
                String next = sum ? (of >> i & 1) == 0 ? "(" : "if " : i < 3 ? truths[of >> i & 1] : sums[of >> i & 1];
                sum = next.equals("(");
                opened.append(next);
            }
            String head = TWO + "keeps : " + opened;
            x = new CageLift();
            faultAtMark(head + "^(1", 4);
            faultAtMark(head + "^if 1", 4);
            faultAtMark(head + "^[1", sum ? 2 : 4);
            faultAtMark(head + "^not 1", sum ? 2 : 4);
            faultAtMark(head + "1 ^(", 2);
            faultAtMark(head + "1 + ^(", 4);
            faultAtMark(head + "1^", 2);
        }
    }

    private static void nested(String begin, String open, String core, String close, String end) {
        good(TWO + begin + open.repeat(6) + core + close.repeat(6) + end, 2);
        // Where in a piece the word that opens stands.
        int at = open.indexOf('(') > 0 ? open.indexOf('(') : 0;
        faultAtMark(TWO + begin + open.repeat(6) + open.substring(0, at) + "^" + open.substring(at) + core + close.repeat(7) + end, 4);
    }

    private static void nestingAside() {
        says("within one another: those that ended don't count");
        good(TWO + "keeps : " + "[[[[[[1 = 1]]]]]] and ".repeat(3) + "[[[[[[1 = 1]]]]]];", 2);
        good(TWO + "keeps : " + "not not not not not not 1 = 1 or ".repeat(3) + "not not not not not not 1 = 1;", 2);
        good(TWO + "weighs : " + "((((((1)))))) + ".repeat(5) + "((((((1))))));", 2);
        good(TWO + "weighs : " + "(1) * ".repeat(20) + "(1);", 2);
        good(TWO + "keeps : " + "[1 = 1] and ".repeat(20) + "[1 = 1];", 2);
        good(TWO + "weighs : " + "if 1 = 1 then 1 else 1 end + ".repeat(9) + "1;", 2);
        good(TWO + "keeps : not not not not not [1 = 1] and not not not not not not 1 = 1;", 2);
        good(TWO + "keeps : not not not not not (1) = (1);", 2);
        faultAtMark(TWO + "keeps : not not not not not not 1 = ^(1);", 4);
        faultAtMark(TWO + "keeps : [[[[[not 1 = 1 and not 1 = 1 and not 1 = ^(1)]]]]];", 4);
        good(TWO + "keeps : [[[[not [1 = 1] and (1) = (2)]]]] or [[[[[[1 = 1]]]]]];", 2);
        good(TWO + "weighs : if [[[[[1 = 1]]]]] then (((((1))))) else (((((2))))) end;", 2);
        faultAtMark(TWO + "weighs : if [[[[[1 = 1]]]]] then (((((1))))) else (((((^(2)))))) end;", 4);
        faultAtMark(TWO + "weighs : if [[[[[1 = 1]]]]] then (((((^(1)))))) else 2 end;", 4);
        faultAtMark(TWO + "weighs : if [[[[[^[1 = 1]]]]]] then 1 else 2 end;", 4);
        says("a seventh, behind what ended: of or, and, + - *, a comparison");
        for (String ahead : new String[] {"1 = 2 or ", "1 = 2 and ", "not 1 = 2 or ", "1 = 1 or 1 = 1 or ", "1 = 2 or 1 = 1 and "}) {
            faultAtMark(TWO + "keeps : " + ahead + "[[[[[[^[1 = 1]]]]]]];", 4);
            faultAtMark(TWO + "keeps : " + ahead + "not not not not not not ^not 1 = 1;", 4);
            faultAtMark(TWO + "keeps : " + ahead + "1 = ((((((^(1)))))));", 4);
            faultAtMark(TWO + "keeps : [" + ahead + "[[[[[^[1 = 1]]]]]]];", 4);
        }
        for (String ahead : new String[] {"1 + ", "1 - ", "1 * ", "1 + 1 * ", "1 * 1 - "}) faultAtMark(TWO + "weighs : " + ahead + "((((((^(1)))))));", 4);
        says("a law of the greatest depth tells what it must");
        on(TWO + "half 0 by 1;weighs : 1 + 2 * (3 + 4 * (5 - 6 * (7 + 8 * (9 - 1 * (2 + 1 * (3 - 4))))));");
        // 3 - 4 = -1; 2 - 1 = 1; 9 - 1 = 8; 7 + 64 = 71; 5 - 426 = -421; 3 - 1684 = -1681; 1 - 3362.
        due(x.light(0, 1), 1);
        on(TWO + "half 0 by 1;weighs : 1 + 2 * (3 + 4 * (5 - 6 * (7 + 8 * (9 - 1 * (2 + 1 * (3 - 4)))))) + 999 * 3 + 400;");
        // -3361 + 2997 + 400
        due(x.light(0, 1), 36);
        on(TWO + "half 0 by 1;keeps : 1 = 2 or 1 = 1 and 0 < 1 + 1 * if 1 = 2 or 1 = 1 and 2 < 1 + 2 * (1 + 1 * if 1 = 2 or 1 = 1 and 1 < 1 + 1 * (2 * (1 + 1 * "
            + "if 2 > 1 then 1 else 1 + 1 * 1 end)) then 5 else 6 + 1 * 1 end) then 5 else 0 - 9 end;");
        due(x.count(5), 1);
    }
}
