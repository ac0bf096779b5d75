/** What the tests by hand share: the object that is asked, texts for its tape, answers held against those that are due. */
abstract class Bench {
    static CageLift x = new CageLift();
    private static String sentence = "";
    private static int sentences = 0;
    private static int wrong = 0;

    /** What the document says there; the answers that follow are asked of a new object. */
    static void says(String words) {
        sentence = words;
        sentences++;
        x = new CageLift();
    }

    static void due(String call, long got, long want) {
        if (got != want) {
            wrong++;
            System.out.println(sentence + "\n    " + call + " answered " + got + ", due is " + want);
        }
    }

    static void due(long got, long want) {
        due("line " + Thread.currentThread().getStackTrace()[2].getLineNumber(), got, want);
    }

    static void end() {
        System.out.println(wrong == 0 ? sentences + " sentences hold" : wrong + " answers are not as due");
        if (wrong != 0) System.exit(1);
    }

    /** A text comes onto the tape of an object, filled up with blanks. */
    static void lay(CageLift on, String text) {
        StringBuilder b = new StringBuilder(text);
        while (b.length() % 20 != 0) b.append(' ');
        for (int i = 0; i < b.length(); i += 20) {
            int[] v = new int[5];
            for (int j = 0; j < 20; j++) v[j / 4] = v[j / 4] << 8 | b.charAt(i + j) & 255;
            on.feed(v[0], v[1], v[2], v[3], v[4]);
        }
    }

    static void lay(String text) { lay(x, text); }

    static int tell(String text) {
        lay(text);
        return x.works(text.length());
    }

    /** A new object with a works. */
    static void on(String text) {
        x = new CageLift();
        int lines = tell(text);
        if (lines < 1) due("works: " + text, lines, 1);
    }

    static void faulty(String text, int kind, int place) {
        due(text, tell(text), -30 - kind);
        due("fault(0) of " + text, x.fault(0), kind);
        due("fault(1) of " + text, x.fault(1), place);
    }

    /** A text whose fault is where the mark ^ stands, which is no part of it. */
    static void faultAtMark(String marked, int kind) {
        int place = marked.indexOf('^');
        faulty(marked.substring(0, place) + marked.substring(place + 1), kind, place);
    }

    static void good(String text, int lines) {
        due(text, tell(text), lines);
        due("fault(0) of " + text, x.fault(0), 0);
        due("fault(1) of " + text, x.fault(1), -1);
    }

    static void tray(int t, int sort, long... values) {
        due("numbers", x.numbers(t, sort, values.length), 0);
        for (int i = 0; i < values.length; i++) due("write", x.write(t, i, values[i]), values[i]);
    }
}
