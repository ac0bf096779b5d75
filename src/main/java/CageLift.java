import java.util.Arrays;

/**
 * Smallest regular networks without short rings: a works told as a text, the
 * network lifted from it by a group, and what can be asked of that network.
 */
public final class CageLift {
    /** There is none. */
    public static final int NONE = -1;

    private static final int NO_SUCH = -2;
    private static final int CANT_BE = -3;
    private static final int TOO_MANY = -4;
    private static final int NOT_NOW = -5;
    private static final int TRAY_MISSING = -6;
    private static final int NO_NUMBER = -7;
    private static final int WHY_NOT = -10;
    private static final int TEXT_FAULT = -30;

    private static final int TAPE_BYTES = 900;
    private static final int FEED_BYTES = 20;
    private static final int MOST_MEMBERS = 12;
    private static final int MOST_PLACES = 5;
    private static final int MOST_ARCS = 12;
    private static final int MOST_NODES = MOST_PLACES * MOST_MEMBERS;
    private static final int MOST_LINKS = MOST_ARCS * MOST_MEMBERS;
    private static final int TWISTS = 10;
    private static final int TRAYS = 4;
    private static final int TRAY_PLACES = 40;
    private static final int IMAGES = 2;
    private static final int MOST_UNDONE = 10;
    private static final int LOTS = 10;
    /** Greater than any ring is long or heavy. */
    private static final int NO_RING = 1000000;

    private final Reader reader = new Reader();
    private final Plan plan = new Plan();
    private final Setting now = new Setting();
    private final Setting before = new Setting();
    private final Setting trial = new Setting();
    private final History history = new History();
    private final Image[] images = new Image[IMAGES];
    private final Tray[] trays = new Tray[TRAYS];
    /** Its network is the one that is lifted now. */
    private final Rings loops = new Rings();
    private final Network guess = new Network();
    private final Hunt hunt = new Hunt();
    /** What one link weighs by each twist. */
    private final int[] weights = new int[TWISTS];
    private boolean stale = true;

    public CageLift() {
        for (int i = 0; i < IMAGES; i++) {
            images[i] = new Image();
        }
        for (int i = 0; i < TRAYS; i++) {
            trays[i] = new Tray();
        }
    }

    // ---- the works

    public int feed(int a, int b, int c, int d, int e) {
        if (reader.taped > TAPE_BYTES - FEED_BYTES) {
            return NOT_NOW;
        }
        reader.layFour(a);
        reader.layFour(b);
        reader.layFour(c);
        reader.layFour(d);
        reader.layFour(e);
        return reader.taped;
    }

    public int works(int n) {
        if (n < 0 || n > reader.taped) {
            return CANT_BE;
        }
        if (!reader.readAll(n)) {
            return TEXT_FAULT - reader.faultKind;
        }
        plan.copyFrom(reader.plan);
        now.begin(plan);
        history.forget();
        stale = true;
        return plan.lines;
    }

    public int fault(int what) {
        switch (what) {
            case 0: return reader.faultKind;
            case 1: return reader.faultPlace;
            default: return NONE;
        }
    }

    public int arc(int a, int what) {
        if (!plan.hasArc(a)) {
            return NO_SUCH;
        }
        switch (what) {
            case 0: return plan.from[a];
            case 1: return plan.to[a];
            case 2: return now.voltage[a];
            case 3: return plan.isHalf(a) ? 1 : 0;
            case 4: return now.isOut(a) ? 1 : 0;
            default: return NO_SUCH;
        }
    }

    // ---- the group

    public int product(int x, int y) {
        if (!plan.group.has(x) || !plan.group.has(y)) {
            return NO_SUCH;
        }
        return plan.group.times(x, y);
    }

    public int inverse(int x) {
        return plan.group.has(x) ? plan.group.back[x] : NO_SUCH;
    }

    public int orderOf(int x) {
        return plan.group.has(x) ? plan.group.order[x] : NO_SUCH;
    }

    public int centre() {
        return plan.group.centrals();
    }

    // ---- deeds

    public int turn(int a, int g) {
        before.copyFrom(now);
        int why = now.turnTo(plan, a, g);
        if (why != 0) {
            return WHY_NOT - why;
        }
        wasDone();
        return before.voltage[a];
    }

    public int cut(int a) {
        before.copyFrom(now);
        int why = now.cutOrJoin(plan, a);
        if (why != 0) {
            return WHY_NOT - why;
        }
        wasDone();
        return now.isOut(a) ? 1 : 0;
    }

    public int twist(int n) {
        before.copyFrom(now);
        int why = now.twistTo(n);
        if (why != 0) {
            return WHY_NOT - why;
        }
        wasDone();
        return before.twist;
    }

    public int undo(int n) {
        if (n < 1 || n > MOST_UNDONE || n > history.held) {
            return CANT_BE;
        }
        history.takeBack(n, now);
        stale = true;
        return history.held;
    }

    public int judge(int tray, int what) {
        if (!isTray(tray) || what < 0 || what > 3) {
            return NO_SUCH;
        }
        Tray deeds = trays[tray];
        if (deeds.isMissing()) {
            return TRAY_MISSING;
        }
        trial.copyFrom(now);
        int done = doAll(deeds, trial);
        boolean whole = done >= deeds.size;
        switch (what) {
            case 0: return whole ? NONE : done;
            case 1: return whole ? 0 : trial.tryDeed(plan, deeds.values[done]);
            case 2:
                guess.build(plan, trial);
                return orNone(guess.shortestRing());
            default:
                guess.build(plan, trial);
                return guess.links;
        }
    }

    public int perform(int tray) {
        int code = trayCode(tray);
        if (code != 0) {
            return code;
        }
        before.copyFrom(now);
        int done = doAll(trays[tray], now);
        if (done > 0) {
            wasDone();
        }
        return done;
    }

    public int day(int seed, int times) {
        if (times < 1 || times > 40) {
            return CANT_BE;
        }
        before.copyFrom(now);
        int x = seed;
        int done = 0;
        for (int i = 0; i < times; i++) {
            x = nextDraw(x);
            int kind = (x >>> 16) % 4;
            x = nextDraw(x);
            int deed = drawnDeed(kind, x >>> 16);
            if (kind >= 2) {
                x = nextDraw(x);
                deed += (x >>> 16) % 12;
            }
            if (now.tryDeed(plan, deed) == 0) {
                done++;
            }
        }
        if (done > 0) {
            wasDone();
        }
        return done;
    }

    // ---- the network

    public int joins(int a, int b) {
        Network net = current();
        if (!net.has(a) || !net.has(b)) {
            return NO_SUCH;
        }
        return net.linksBetween(a, b);
    }

    public int degree(int n) {
        Network net = current();
        return net.has(n) ? net.endsAt(n) : NO_SUCH;
    }

    public int neighbour(int n, int i) {
        Network net = current();
        if (!net.has(n)) {
            return NO_SUCH;
        }
        if (i < 0) {
            return CANT_BE;
        }
        return net.neighbourAt(n, i);
    }

    public int regular() {
        return current().commonDegree();
    }

    public int parts() {
        return current().countParts();
    }

    public int twoColours() {
        return current().isTwoColoured() ? 1 : 0;
    }

    public int far(int a, int b) {
        Network net = current();
        if (!net.has(a) || !net.has(b)) {
            return NO_SUCH;
        }
        net.spread(a);
        return net.dist[b];
    }

    public int diameter() {
        return current().widest();
    }

    public int ball(int n, int r) {
        Network net = current();
        if (!net.has(n)) {
            return NO_SUCH;
        }
        if (r < 0 || r > 99) {
            return CANT_BE;
        }
        return net.within(n, r);
    }

    // ---- rings

    public int girth() {
        return orNone(current().shortestRing());
    }

    public int ring(int i) {
        if (i < 0) {
            return CANT_BE;
        }
        Rings found = currentRings();
        found.findFirst();
        return i < found.length ? found.path[i] : NONE;
    }

    public int rings(int length) {
        if (length < 1 || length > 6) {
            return CANT_BE;
        }
        return currentRings().countOf(length);
    }

    public int through(int n) {
        Network net = current();
        if (!net.has(n)) {
            return NO_SUCH;
        }
        return orNone(net.shortestThrough(n));
    }

    public long bound(int d, int g) {
        return isBounded(d, g) ? treeBound(d, g) : CANT_BE;
    }

    public long excess() {
        Network net = current();
        int d = net.commonDegree();
        int g = orNone(net.shortestRing());
        return isBounded(d, g) ? net.nodes - treeBound(d, g) : NONE;
    }

    public int light(int a, int b) {
        Network net = current();
        if (!net.has(a) || !net.has(b)) {
            return NO_SUCH;
        }
        net.weighLinks(plan, now.twist);
        net.lightFrom(a);
        return orNone(net.cost[b]);
    }

    public int lightest() {
        Network net = current();
        net.weighLinks(plan, now.twist);
        return orNone(net.lightestRing());
    }

    // ---- walks

    public int walk(int tray) {
        int code = trayCode(tray);
        return code != 0 ? code : gathered(trays[tray]);
    }

    public int lifted(int tray) {
        int voltage = walk(tray);
        if (!plan.group.has(voltage)) {
            return voltage;
        }
        Tray steps = trays[tray];
        int begins = stepBegins(steps.values[0]);
        int ends = stepEnds(steps.values[steps.size - 1]);
        return begins == ends ? steps.size * plan.group.order[voltage] : NONE;
    }

    public int tune(int a) {
        if (!plan.hasArc(a)) {
            return NO_SUCH;
        }
        int best = NONE;
        int longest = 0;
        for (int g = 0; g < plan.group.size; g++) {
            if (plan.whyNotBy(a, g) == 0) {
                int length = ringBy(a, g);
                if (length > longest) {
                    best = g;
                    longest = length;
                }
            }
        }
        return best;
    }

    public int tuned(int a) {
        int g = tune(a);
        return g < 0 ? g : orNone(ringBy(a, g));
    }

    // ---- the search

    public int search(int d, int g, int n, int what) {
        if (what < 0 || what > 2) {
            return NO_SUCH;
        }
        if (!Hunt.canBe(d, g, n)) {
            return CANT_BE;
        }
        hunt.run(d, g, n);
        switch (what) {
            case 0: return hunt.outcome;
            case 1: return hunt.steps;
            default: return hunt.shutTimes;
        }
    }

    public int found(int d, int g, int n, int a, int b) {
        if (!Hunt.canBe(d, g, n) || a < 0 || a >= n || b < 0 || b >= n) {
            return CANT_BE;
        }
        hunt.run(d, g, n);
        if (hunt.outcome != Hunt.FOUND) {
            return NONE;
        }
        return hunt.near[a] >> b & 1;
    }

    // ---- weighed

    public int twists(int tray) {
        int code = trayCode(tray);
        if (code != 0) {
            return code;
        }
        Tray weighed = trays[tray];
        if (weighed.size < 1 || weighed.size > 8) {
            return TOO_MANY;
        }
        for (int i = 0; i < weighed.size; i++) {
            if (!isWeighing(weighed.values[i])) {
                return CANT_BE;
            }
        }
        int bits = 0;
        for (int t = 0; t < TWISTS; t++) {
            if (allWeighSo(weighed, t)) {
                bits |= 1 << t;
            }
        }
        return bits;
    }

    public int weigh(int tray) {
        int bits = twists(tray);
        if (bits <= 0) {
            return bits == 0 ? NONE : bits;
        }
        int best = NONE;
        int least = TWISTS + 1;
        for (int a = 0; a < plan.arcs; a++) {
            for (int x = 0; x < plan.group.size; x++) {
                int most = mostAlike(bits, a, x);
                if (most < least) {
                    least = most;
                    best = 100 * a + x;
                }
            }
        }
        return best;
    }

    // ---- chances

    public int chance(int k, int n, int what) {
        if (what < 0 || what > 1) {
            return NO_SUCH;
        }
        if (k < 1 || k > 60 || n < 0 || n > 2) {
            return CANT_BE;
        }
        return lowest(drawn(n, k), n, what);
    }

    public int mean(int n, int what) {
        if (what < 0 || what > 1) {
            return NO_SUCH;
        }
        if (n < 0 || n > 2) {
            return CANT_BE;
        }
        return lowest(drawn(n, 0), n, what);
    }

    // ---- trays, images

    public int numbers(int tray, int sort, int n) {
        if (!isTray(tray) || sort < 0 || sort > 3) {
            return NO_SUCH;
        }
        if (n < 0 || n > TRAY_PLACES) {
            return CANT_BE;
        }
        trays[tray].lay(sort, n);
        return 0;
    }

    public long write(int tray, int i, long v) {
        int code = trayCode(tray);
        if (code != 0) {
            return code;
        }
        Tray into = trays[tray];
        if (i < 0 || i >= into.size) {
            return NO_NUMBER;
        }
        into.values[i] = into.trimmed(v);
        return into.values[i];
    }

    public int lists(int tray) {
        int code = trayCode(tray);
        if (code != 0) {
            return code;
        }
        Rings found = currentRings();
        found.findFirst();
        if (found.length == 0) {
            return NOT_NOW;
        }
        Tray into = trays[tray];
        int many = Math.min(into.size, found.length);
        for (int i = 0; i < many; i++) {
            into.values[i] = into.trimmed(found.path[i]);
        }
        return many;
    }

    public int image(int i) {
        if (i < 0 || i >= IMAGES) {
            return NO_SUCH;
        }
        images[i].take(plan, now);
        return 0;
    }

    public int restore(int i) {
        if (i < 0 || i >= IMAGES) {
            return NO_SUCH;
        }
        if (!images[i].made) {
            return NOT_NOW;
        }
        images[i].giveBack(plan, now);
        history.forget();
        stale = true;
        return 0;
    }

    public int count(int what) {
        switch (what) {
            case 0: return plan.places;
            case 1: return plan.arcs;
            case 2: return plan.group.size;
            case 3: return now.twist;
            case 4: return plan.places * plan.group.size;
            case 5: return current().links;
            case 6: return now.out;
            case 7: return history.held;
            case 8: return reader.taped;
            case 9: return plan.lines;
            default: return NONE;
        }
    }

    // ---- what the calls share

    private void wasDone() {
        history.keep(before);
        stale = true;
    }

    private static boolean isTray(int tray) {
        return tray >= 0 && tray < TRAYS;
    }

    /** 0 for a tray that is there, else the code of the refusal. */
    private int trayCode(int tray) {
        if (!isTray(tray)) {
            return NO_SUCH;
        }
        return trays[tray].isMissing() ? TRAY_MISSING : 0;
    }

    private static int orNone(int length) {
        return length >= NO_RING ? NONE : length;
    }

    /** The network as it is now; it is lifted again only when something changed. */
    private Network current() {
        if (stale) {
            loops.net.build(plan, now);
            loops.known = false;
            stale = false;
        }
        return loops.net;
    }

    private Rings currentRings() {
        current();
        return loops;
    }

    /** How many deeds of the tray are done till one can't be. */
    private int doAll(Tray deeds, Setting on) {
        for (int i = 0; i < deeds.size; i++) {
            if (on.tryDeed(plan, deeds.values[i]) != 0) {
                return i;
            }
        }
        return deeds.size;
    }

    private static int nextDraw(int x) {
        return 1103515245 * x + 12345;
    }

    private static int drawnDeed(int kind, int draw) {
        switch (kind) {
            case 0: return 10 + draw % 10;
            case 1: return 100 + draw % 12;
            default: return 1000 + 100 * (draw % 12);
        }
    }

    private static boolean isBounded(int d, int g) {
        return d >= 2 && d <= 9 && g >= 3 && g <= 12;
    }

    private static long treeBound(int d, int g) {
        int layers = g % 2 == 1 ? (g - 1) / 2 : g / 2;
        long sum = 0;
        long layer = 1;
        for (int i = 0; i < layers; i++) {
            sum += layer;
            layer *= d - 1;
        }
        return g % 2 == 1 ? 1 + d * sum : 2 * sum;
    }

    /** The voltage a walk gathers, or the code of what it can't be. */
    private int gathered(Tray steps) {
        if (steps.size < 1 || steps.size > 12) {
            return TOO_MANY;
        }
        int voltage = 0;
        int at = NONE;
        for (int i = 0; i < steps.size; i++) {
            long step = steps.values[i];
            if (step < 0 || step >= 2L * plan.arcs || at != NONE && at != stepBegins(step)) {
                return CANT_BE;
            }
            int g = now.voltage[(int) (step / 2)];
            voltage = plan.group.times(voltage, step % 2 == 0 ? g : plan.group.back[g]);
            at = stepEnds(step);
        }
        return voltage;
    }

    private int stepBegins(long step) {
        return step % 2 == 0 ? plan.from[(int) (step / 2)] : plan.to[(int) (step / 2)];
    }

    private int stepEnds(long step) {
        return step % 2 == 0 ? plan.to[(int) (step / 2)] : plan.from[(int) (step / 2)];
    }

    /** The shortest ring if an arc were turned, NO_RING if there were none. */
    private int ringBy(int a, int g) {
        trial.copyFrom(now);
        trial.voltage[a] = g;
        guess.build(plan, trial);
        return guess.shortestRing();
    }

    private boolean isWeighing(long v) {
        return v >= 0 && v / 10000 < plan.arcs && v / 100 % 100 < plan.group.size && v % 100 > 0;
    }

    private boolean allWeighSo(Tray weighed, int t) {
        for (int i = 0; i < weighed.size; i++) {
            int v = (int) weighed.values[i];
            if (plan.weightOf(v / 10000, v / 100 % 100, t) != v % 100) {
                return false;
            }
        }
        return true;
    }

    /** The most of these twists by which a link weighs the same. */
    private int mostAlike(int bits, int a, int x) {
        int most = 0;
        for (int t = 0; t < TWISTS; t++) {
            weights[t] = (bits >> t & 1) == 1 ? plan.weightOf(a, x, t) : 0;
            int alike = 0;
            for (int u = 0; u <= t; u++) {
                alike += weights[u] == weights[t] ? 1 : 0;
            }
            most = weights[t] == 0 ? most : Math.max(most, alike);
        }
        return most;
    }

    /** Of the ten to the n draws: how many have no ring shorter than k, or for k 0 the sum of rings. */
    private int drawn(int n, int k) {
        trial.copyFrom(now);
        if (n == 0) {
            return worth(k);
        }
        int sum = 0;
        for (int u = 0; u < LOTS; u++) {
            drawLot(u);
            if (n == 1) {
                sum += worth(k);
            }
            // u v brings what v u brings.
            for (int v = u; n == 2 && v < LOTS; v++) {
                int once = trial.voltage[v];
                drawLot(v);
                sum += v == u ? worth(k) : 2 * worth(k);
                trial.voltage[v] = once;
            }
            trial.voltage[u] = now.voltage[u];
        }
        return sum;
    }

    private void drawLot(int v) {
        if (plan.hasArc(v) && !plan.isHalf(v) && plan.group.has(1)) {
            trial.voltage[v] = plan.group.times(trial.voltage[v], 1);
        }
    }

    private int worth(int k) {
        guess.build(plan, trial);
        int length = guess.shortestRing();
        if (k == 0) {
            return length == NO_RING ? 0 : length;
        }
        return length >= k ? 1 : 0;
    }

    /** Above or below, in lowest terms, of a number by ten to the n. */
    private static int lowest(int above, int n, int what) {
        int below = n == 0 ? 1 : n == 1 ? LOTS : LOTS * LOTS;
        int shared = below;
        int rest = above;
        for (int i = 0; i < 100 && rest != 0; i++) {
            int next = shared % rest;
            shared = rest;
            rest = next;
        }
        if (shared < 1) {
            return what == 0 ? above : below;
        }
        return what == 0 ? above / shared : below / shared;
    }

    /** Members of a group as numbers, with their products, inverses, orders. */
    private static final class Group {
        /** i times j for 1, i, j, k; 4 more is the same with the other sign. */
        private static final int[] AXES = {0, 1, 2, 3, 1, 4, 3, 6, 2, 7, 4, 1, 3, 2, 5, 4};

        int size = 1;
        final int[] table = new int[MOST_MEMBERS * MOST_MEMBERS];
        final int[] back = new int[MOST_MEMBERS];
        final int[] order = new int[MOST_MEMBERS];

        Group() {
            order[0] = 1;
        }

        boolean has(int x) {
            return x >= 0 && x < size;
        }

        int times(int x, int y) {
            return has(x) && has(y) ? table[x * MOST_MEMBERS + y] : 0;
        }

        void makeProduct(int a, int b) {
            if (a < 1 || b < 1 || a * b > MOST_MEMBERS) {
                return;
            }
            size = a * b;
            for (int x = 0; x < size; x++) {
                for (int y = 0; y < size; y++) {
                    table[x * MOST_MEMBERS + y] = (x / b + y / b) % a * b + (x % b + y % b) % b;
                }
            }
            settle();
        }

        void makeMirrors(int n) {
            if (n < 1 || 2 * n > MOST_MEMBERS) {
                return;
            }
            size = 2 * n;
            for (int x = 0; x < size; x++) {
                for (int y = 0; y < size; y++) {
                    // A mirror ahead turns what comes behind it the other way.
                    int turned = x < n ? x + y % n : x - y % n + n;
                    boolean mirror = x < n != y < n;
                    table[x * MOST_MEMBERS + y] = turned % n + (mirror ? n : 0);
                }
            }
            settle();
        }

        void makeQuaternions() {
            size = 8;
            for (int x = 0; x < size; x++) {
                for (int y = 0; y < size; y++) {
                    int unsigned = AXES[x % 4 * 4 + y % 4];
                    table[x * MOST_MEMBERS + y] = (unsigned + x / 4 * 4 + y / 4 * 4) % 8;
                }
            }
            settle();
        }

        private void settle() {
            for (int x = 0; x < size; x++) {
                int power = x;
                int last = 0;
                int many = 1;
                while (many < size && power != 0) {
                    last = power;
                    power = times(power, x);
                    many++;
                }
                order[x] = many;
                back[x] = last;
            }
        }

        int centrals() {
            int many = 0;
            for (int x = 0; x < size; x++) {
                boolean central = true;
                for (int y = 0; y < size; y++) {
                    central &= times(x, y) == times(y, x);
                }
                many += central ? 1 : 0;
            }
            return many;
        }

        void copyFrom(Group other) {
            size = other.size;
            System.arraycopy(other.table, 0, table, 0, table.length);
            System.arraycopy(other.back, 0, back, 0, back.length);
            System.arraycopy(other.order, 0, order, 0, order.length);
        }
    }

    /** Both laws of a works as steps of a machine with a stack, one law behind the other. */
    private static final class Laws {
        static final int NUMBER = 0;
        static final int ARC = 1;
        static final int FROM = 2;
        static final int TO = 3;
        static final int MEMBER = 4;
        static final int TWIST = 5;
        static final int ADD = 6;
        static final int TAKE = 7;
        static final int TIMES = 8;
        static final int SAME = 9;
        static final int LESS = 10;
        static final int MORE = 11;
        static final int NOT = 12;
        static final int AND = 13;
        static final int OR = 14;
        static final int IF = 15;
        private static final int KINDS = 16;
        private static final int FARTHEST = 1000000;
        /** Seven places a nesting level are enough, and there are seven levels. */
        private static final int STACK = 64;

        final int[] steps = new int[TAPE_BYTES];
        int size = 0;
        int keepsBegin = 0;
        int keepsEnd = 0;
        int weighsBegin = 0;
        int weighsEnd = 0;
        private final int[] stack = new int[STACK];

        void clear() {
            size = 0;
            keepsBegin = 0;
            keepsEnd = 0;
            weighsBegin = 0;
            weighsEnd = 0;
        }

        void copyFrom(Laws other) {
            size = other.size;
            System.arraycopy(other.steps, 0, steps, 0, other.size);
            keepsBegin = other.keepsBegin;
            keepsEnd = other.keepsEnd;
            weighsBegin = other.weighsBegin;
            weighsEnd = other.weighsEnd;
        }

        void add(int kind, int number) {
            if (size < steps.length) {
                steps[size] = number * KINDS + kind;
                size++;
            }
        }

        /** What the steps from begin to end tell of a member's link of an arc. */
        int value(int begin, int end, Plan plan, int arc, int member, int twist) {
            int top = 0;
            for (int i = begin; i < end; i++) {
                int kind = steps[i] % KINDS;
                if (kind <= TWIST) {
                    if (top < STACK) {
                        stack[top] = atom(kind, steps[i] / KINDS, plan, arc, member, twist);
                        top++;
                    }
                } else if (kind == NOT) {
                    if (top >= 1) {
                        stack[top - 1] = 1 - stack[top - 1];
                    }
                } else if (kind == IF) {
                    if (top >= 3) {
                        top -= 2;
                        stack[top - 1] = stack[top - 1] != 0 ? stack[top] : stack[top + 1];
                    }
                } else if (top >= 2) {
                    top--;
                    long told = joined(kind, stack[top - 1], stack[top]);
                    stack[top - 1] = (int) Math.max(-FARTHEST, Math.min(FARTHEST, told));
                }
            }
            return top > 0 ? stack[top - 1] : 0;
        }

        private static int atom(int kind, int number, Plan plan, int arc, int member, int twist) {
            switch (kind) {
                case ARC: return arc;
                case FROM: return plan.from[arc];
                case TO: return plan.to[arc];
                case MEMBER: return member;
                case TWIST: return twist;
                default: return number;
            }
        }

        private static long joined(int kind, int a, int b) {
            switch (kind) {
                case ADD: return a + b;
                case TAKE: return a - b;
                case TIMES: return (long) a * b;
                case SAME: return a == b ? 1 : 0;
                case LESS: return a < b ? 1 : 0;
                case MORE: return a > b ? 1 : 0;
                case AND: return a & b;
                default: return a | b;
            }
        }
    }

    /** The works as it was told. */
    private static final class Plan {
        final Group group = new Group();
        final Laws laws = new Laws();
        int twist = 0;
        int places = 1;
        int arcs = 0;
        int lines = 0;
        /** Arcs that are halves, as bits. */
        int halves = 0;
        final int[] from = new int[MOST_ARCS];
        final int[] to = new int[MOST_ARCS];
        final int[] voltage = new int[MOST_ARCS];
        /** The twist for which the kept members of each arc are known as bits, or NONE. */
        private int keptTwist = NONE;
        final int[] kept = new int[MOST_ARCS];

        void clear() {
            group.makeProduct(1, 1);
            laws.clear();
            twist = 0;
            places = 1;
            arcs = 0;
            lines = 0;
            halves = 0;
            keptTwist = NONE;
        }

        void copyFrom(Plan other) {
            group.copyFrom(other.group);
            laws.copyFrom(other.laws);
            twist = other.twist;
            places = other.places;
            arcs = other.arcs;
            lines = other.lines;
            halves = other.halves;
            keptTwist = NONE;
            System.arraycopy(other.from, 0, from, 0, MOST_ARCS);
            System.arraycopy(other.to, 0, to, 0, MOST_ARCS);
            System.arraycopy(other.voltage, 0, voltage, 0, MOST_ARCS);
        }

        void addArc(int begins, int ends, int g, boolean half) {
            if (arcs >= MOST_ARCS) {
                return;
            }
            from[arcs] = begins;
            to[arcs] = ends;
            voltage[arcs] = g;
            halves |= half ? 1 << arcs : 0;
            arcs++;
        }

        boolean hasArc(int a) {
            return a >= 0 && a < arcs;
        }

        boolean isHalf(int a) {
            return hasArc(a) && (halves >> a & 1) == 1;
        }

        /** Why an arc can't have a voltage: 0 it can, 1 no such ones, 2 a half by another order. */
        int whyNotBy(int a, int g) {
            if (!hasArc(a) || !group.has(g)) {
                return 1;
            }
            return isHalf(a) && group.order[g] != 2 ? 2 : 0;
        }

        /** The law needn't be asked again for each trial, as voltages don't come into it. */
        void knowKept(int t) {
            if (keptTwist == t) {
                return;
            }
            keptTwist = t;
            boolean told = laws.keepsEnd > laws.keepsBegin;
            for (int a = 0; a < arcs; a++) {
                int bits = 0;
                for (int x = 0; x < group.size; x++) {
                    if (!told || laws.value(laws.keepsBegin, laws.keepsEnd, this, a, x, t) != 0) {
                        bits |= 1 << x;
                    }
                }
                kept[a] = bits;
            }
        }

        int weightOf(int a, int x, int t) {
            if (!hasArc(a) || laws.weighsEnd <= laws.weighsBegin) {
                return 1;
            }
            int told = laws.value(laws.weighsBegin, laws.weighsEnd, this, a, x, t);
            return Math.max(1, Math.min(99, told));
        }
    }

    /** What deeds change and undoing brings back. */
    private static final class Setting {
        final int[] voltage = new int[MOST_ARCS];
        /** Arcs that are cut, as bits. */
        int out = 0;
        int twist = 0;

        void begin(Plan plan) {
            System.arraycopy(plan.voltage, 0, voltage, 0, MOST_ARCS);
            out = 0;
            twist = plan.twist;
        }

        void copyFrom(Setting other) {
            System.arraycopy(other.voltage, 0, voltage, 0, MOST_ARCS);
            out = other.out;
            twist = other.twist;
        }

        boolean isOut(int a) {
            return (out >> a & 1) == 1;
        }

        // Each deed answers why it can't be, or 0 when it is done.

        int turnTo(Plan plan, int a, int g) {
            int why = plan.whyNotBy(a, g);
            if (why == 0) {
                voltage[a] = g;
            }
            return why;
        }

        int cutOrJoin(Plan plan, int a) {
            if (!plan.hasArc(a)) {
                return 1;
            }
            out ^= 1 << a;
            return 0;
        }

        int twistTo(int n) {
            if (n < 0 || n >= TWISTS) {
                return 1;
            }
            twist = n;
            return 0;
        }

        int tryDeed(Plan plan, long v) {
            if (v >= 10 && v <= 19) {
                return twistTo((int) v - 10);
            }
            if (v >= 100 && v <= 111) {
                return cutOrJoin(plan, (int) v - 100);
            }
            if (v >= 1000 && v <= 2199) {
                return turnTo(plan, (int) (v - 1000) / 100, (int) v % 100);
            }
            return 1;
        }
    }

    /** Settings ahead of the latest calls that did some, the eldest forgotten. */
    private static final class History {
        private final Setting[] kept = new Setting[MOST_UNDONE];
        private int next = 0;
        int held = 0;

        History() {
            for (int i = 0; i < MOST_UNDONE; i++) {
                kept[i] = new Setting();
            }
        }

        void keep(Setting ahead) {
            kept[next].copyFrom(ahead);
            next = (next + 1) % MOST_UNDONE;
            held = Math.min(held + 1, MOST_UNDONE);
        }

        void takeBack(int n, Setting into) {
            if (n < 1 || n > held) {
                return;
            }
            next = (next + MOST_UNDONE - n) % MOST_UNDONE;
            held -= n;
            into.copyFrom(kept[next]);
        }

        void forget() {
            held = 0;
        }
    }

    /** The works and its setting, to go on from. */
    private static final class Image {
        private final Plan plan = new Plan();
        private final Setting setting = new Setting();
        boolean made = false;

        void take(Plan told, Setting set) {
            plan.copyFrom(told);
            setting.copyFrom(set);
            made = true;
        }

        void giveBack(Plan told, Setting set) {
            told.copyFrom(plan);
            set.copyFrom(setting);
        }
    }

    /** Up to forty numbers of one sort. */
    private static final class Tray {
        final long[] values = new long[TRAY_PLACES];
        private int sort = 0;
        int size = NONE;

        boolean isMissing() {
            return size < 0;
        }

        void lay(int kind, int n) {
            sort = kind;
            size = n;
            Arrays.fill(values, 0L);
        }

        long trimmed(long v) {
            switch (sort) {
                case 0: return (byte) v;
                case 1: return (short) v;
                case 2: return (int) v;
                default: return v;
            }
        }
    }

    /** The tape, and what reads it into a plan, token by token, till its end or its first fault. */
    private static final class Reader {
        private static final String WORDS =
            "works cyclic mirrors product quaternions twist places arc half by keeps weighs if then else end from to member not and or";
        private static final String SIGNS = ";:+-*()[]=<>";
        private static final int BAD = 0;
        private static final int END = 1;
        private static final int N = 2;
        // Signs are told by their own numbers, 40 to 93; words by their place among WORDS.
        private static final int OTHER_WORD = 199;
        private static final int WORKS = 200;
        private static final int CYCLIC = 201;
        private static final int MIRRORS = 202;
        private static final int PRODUCT = 203;
        private static final int QUATERNIONS = 204;
        private static final int TWIST = 205;
        private static final int PLACES = 206;
        private static final int ARC = 207;
        private static final int HALF = 208;
        private static final int BY = 209;
        private static final int KEEPS = 210;
        private static final int WEIGHS = 211;
        private static final int IF = 212;
        private static final int THEN = 213;
        private static final int ELSE = 214;
        private static final int FI = 215;
        private static final int FROM = 216;
        private static final int TO = 217;
        private static final int MEMBER = 218;
        private static final int NOT = 219;
        private static final int AND = 220;
        private static final int OR = 221;
        private static final int DEEPEST = 6;

        private final byte[] text = new byte[TAPE_BYTES];
        int taped = 0;
        private int length = 0;
        /** What has been read; whole only when no fault was met. */
        final Plan plan = new Plan();
        private boolean placesTold = false;
        private int start = 0;
        private int after = 0;
        private int token = END;
        private int number = 0;
        int faultKind = 0;
        int faultPlace = NONE;

        void layFour(int bytes) {
            for (int shift = 24; shift >= 0 && taped < TAPE_BYTES; shift -= 8) {
                text[taped] = (byte) (bytes >>> shift);
                taped++;
            }
        }

        /** Whether the first n bytes are a works; the tape is empty then either way. */
        boolean readAll(int n) {
            length = Math.min(n, taped);
            taped = 0;
            plan.clear();
            placesTold = false;
            after = 0;
            faultKind = 0;
            faultPlace = NONE;
            step();
            if (!readHead()) {
                return false;
            }
            for (int i = 0; i < length && token != END; i++) {
                if (!readLine() || !take(';')) {
                    return false;
                }
                plan.lines++;
            }
            return true;
        }

        private boolean readHead() {
            if (!take(WORKS) || !readKind() || !take(TWIST)) {
                return false;
            }
            plan.twist = takeNumber(0, TWISTS - 1);
            plan.lines = 1;
            return plan.twist >= 0 && take(';');
        }

        private boolean readKind() {
            int kind = token;
            if (kind < CYCLIC || kind > QUATERNIONS) {
                return cantStand();
            }
            step();
            if (kind == QUATERNIONS) {
                plan.group.makeQuaternions();
                return true;
            }
            int n = takeNumber(1, kind == MIRRORS ? MOST_MEMBERS / 2 : MOST_MEMBERS);
            if (n < 1) {
                return false;
            }
            if (kind == MIRRORS) {
                plan.group.makeMirrors(n);
                return true;
            }
            int m = kind == PRODUCT ? takeNumber(1, MOST_MEMBERS / n) : 1;
            if (m < 1) {
                return false;
            }
            plan.group.makeProduct(n, m);
            return true;
        }

        private boolean readLine() {
            switch (token) {
                case PLACES: return readPlaces();
                case ARC: return readArc();
                case HALF: return readHalf();
                case KEEPS: return readKeeps();
                case WEIGHS: return readWeighs();
                default: return cantStand();
            }
        }

        private boolean readPlaces() {
            if (placesTold || plan.arcs > 0) {
                return cantStand();
            }
            placesTold = true;
            step();
            int n = takeNumber(1, MOST_PLACES);
            plan.places = Math.max(1, n);
            return n >= 1;
        }

        private boolean readArc() {
            if (plan.arcs >= MOST_ARCS) {
                return faulty(4);
            }
            step();
            int begins = takeNumber(0, plan.places - 1);
            if (begins < 0) {
                return false;
            }
            int ends = takeNumber(0, plan.places - 1);
            if (ends < 0 || !take(BY)) {
                return false;
            }
            int g = takeNumber(0, plan.group.size - 1);
            if (g < 0) {
                return false;
            }
            plan.addArc(begins, ends, g, false);
            return true;
        }

        private boolean readHalf() {
            if (plan.arcs >= MOST_ARCS) {
                return faulty(4);
            }
            step();
            int place = takeNumber(0, plan.places - 1);
            if (place < 0 || !take(BY)) {
                return false;
            }
            if (token == N && plan.group.has(number) && plan.group.order[number] != 2) {
                return faulty(3);
            }
            int g = takeNumber(0, plan.group.size - 1);
            if (g < 0) {
                return false;
            }
            plan.addArc(place, place, g, true);
            return true;
        }

        private boolean readKeeps() {
            step();
            int begin = plan.laws.size;
            if (!take(':') || !readTruth(0)) {
                return false;
            }
            plan.laws.keepsBegin = begin;
            plan.laws.keepsEnd = plan.laws.size;
            return true;
        }

        private boolean readWeighs() {
            step();
            int begin = plan.laws.size;
            if (!take(':') || !readSum(0)) {
                return false;
            }
            plan.laws.weighsBegin = begin;
            plan.laws.weighsEnd = plan.laws.size;
            return true;
        }

        private boolean readTruth(int depth) {
            if (!readBoth(depth)) {
                return false;
            }
            for (int i = 0; i < length && token == OR; i++) {
                step();
                if (!readBoth(depth)) {
                    return false;
                }
                plan.laws.add(Laws.OR, 0);
            }
            return true;
        }

        private boolean readBoth(int depth) {
            if (!readUnit(depth)) {
                return false;
            }
            for (int i = 0; i < length && token == AND; i++) {
                step();
                if (!readUnit(depth)) {
                    return false;
                }
                plan.laws.add(Laws.AND, 0);
            }
            return true;
        }

        private boolean readUnit(int depth) {
            if (token != NOT && token != '[') {
                return readComparison(depth);
            }
            if (depth >= DEEPEST) {
                return faulty(4);
            }
            boolean not = token == NOT;
            step();
            if (!not) {
                return readTruth(depth + 1) && take(']');
            }
            if (!readUnit(depth + 1)) {
                return false;
            }
            plan.laws.add(Laws.NOT, 0);
            return true;
        }

        private boolean readComparison(int depth) {
            if (!readSum(depth)) {
                return false;
            }
            int sign = token;
            if (sign != '=' && sign != '<' && sign != '>') {
                return cantStand();
            }
            step();
            if (!readSum(depth)) {
                return false;
            }
            plan.laws.add(sign == '=' ? Laws.SAME : sign == '<' ? Laws.LESS : Laws.MORE, 0);
            return true;
        }

        private boolean readSum(int depth) {
            if (!readTerm(depth)) {
                return false;
            }
            for (int i = 0; i < length && (token == '+' || token == '-'); i++) {
                int kind = token == '+' ? Laws.ADD : Laws.TAKE;
                step();
                if (!readTerm(depth)) {
                    return false;
                }
                plan.laws.add(kind, 0);
            }
            return true;
        }

        private boolean readTerm(int depth) {
            if (!readAtom(depth)) {
                return false;
            }
            for (int i = 0; i < length && token == '*'; i++) {
                step();
                if (!readAtom(depth)) {
                    return false;
                }
                plan.laws.add(Laws.TIMES, 0);
            }
            return true;
        }

        private boolean readAtom(int depth) {
            switch (token) {
                case N: return addAtom(Laws.NUMBER, number);
                case ARC: return addAtom(Laws.ARC, 0);
                case FROM: return addAtom(Laws.FROM, 0);
                case TO: return addAtom(Laws.TO, 0);
                case MEMBER: return addAtom(Laws.MEMBER, 0);
                case TWIST: return addAtom(Laws.TWIST, 0);
                case '(':
                case IF:
                    return depth >= DEEPEST ? faulty(4) : readNested(depth + 1);
                default: return cantStand();
            }
        }

        private boolean addAtom(int kind, int value) {
            plan.laws.add(kind, value);
            step();
            return true;
        }

        private boolean readNested(int depth) {
            boolean round = token == '(';
            step();
            if (round) {
                return readSum(depth) && take(')');
            }
            if (!readTruth(depth) || !take(THEN) || !readSum(depth)) {
                return false;
            }
            if (!take(ELSE) || !readSum(depth) || !take(FI)) {
                return false;
            }
            plan.laws.add(Laws.IF, 0);
            return true;
        }

        private boolean take(int due) {
            if (token != due) {
                return cantStand();
            }
            step();
            return true;
        }

        /** A number within its bounds, else NONE and a fault. */
        private int takeNumber(int least, int most) {
            if (token != N) {
                cantStand();
                return NONE;
            }
            if (number < least || number > most) {
                faulty(3);
                return NONE;
            }
            int taken = number;
            step();
            return taken;
        }

        private boolean cantStand() {
            return faulty(token == BAD ? 1 : 2);
        }

        private boolean faulty(int kind) {
            faultKind = kind;
            faultPlace = start;
            return false;
        }

        private void step() {
            int at = after;
            while (at < length && (text[at] == 10 || text[at] == 32)) {
                at++;
            }
            start = at;
            number = 0;
            if (at >= length) {
                token = END;
            } else if (text[at] >= 'a' && text[at] <= 'z') {
                while (at < length && text[at] >= 'a' && text[at] <= 'z') {
                    at++;
                }
                token = wordToken(at - start);
            } else if (text[at] >= '0' && text[at] <= '9') {
                while (at < length && text[at] >= '0' && text[at] <= '9') {
                    // Beyond three digits it is no token, whatever its worth.
                    number = number % 1000 * 10 + text[at] - '0';
                    at++;
                }
                token = at - start <= 3 ? N : BAD;
            } else {
                token = text[at] > 0 && SIGNS.indexOf((char) text[at]) >= 0 ? text[at] : BAD;
                at++;
            }
            after = at;
        }

        /** The word of so many letters that starts here. */
        private int wordToken(int letters) {
            int word = WORKS;
            int alike = 0;
            for (int i = 0; i <= WORDS.length(); i++) {
                if (i == WORDS.length() || WORDS.charAt(i) == ' ') {
                    if (alike == letters) {
                        return word;
                    }
                    word++;
                    alike = 0;
                } else if (alike >= 0 && alike < letters && text[start + alike] == WORDS.charAt(i)) {
                    alike++;
                } else {
                    alike = NONE;
                }
            }
            return OTHER_WORD;
        }
    }

    /** Nodes and links, and what can be asked of them by spreading out from a node. */
    private static final class Network {
        int nodes = 0;
        int links = 0;
        final int[] first = new int[MOST_LINKS];
        final int[] second = new int[MOST_LINKS];
        private final int[] arcOf = new int[MOST_LINKS];
        private final int[] memberOf = new int[MOST_LINKS];
        private final int[] weight = new int[MOST_LINKS];
        private boolean weighed = false;
        /** Ends of links by node: those of node n are from start[n] up to start[n + 1]. */
        final int[] start = new int[MOST_NODES + 2];
        final int[] ends = new int[2 * MOST_LINKS];
        final int[] dist = new int[MOST_NODES];
        final int[] cost = new int[MOST_NODES];
        private final int[] via = new int[MOST_NODES];
        private final int[] branch = new int[MOST_NODES];
        private final int[] queue = new int[MOST_NODES];
        /** Nodes as bits: those met so far; those that spreading leaves out. */
        private long seen = 0;
        long barred = 0;

        void build(Plan plan, Setting setting) {
            int size = plan.group.size;
            nodes = plan.places * size;
            links = 0;
            weighed = false;
            plan.knowKept(setting.twist);
            for (int a = 0; a < plan.arcs; a++) {
                if (setting.isOut(a)) {
                    continue;
                }
                boolean half = plan.isHalf(a);
                for (int x = 0; x < size; x++) {
                    int y = plan.group.times(x, setting.voltage[a]);
                    if ((plan.kept[a] >> x & 1) == 1 && (!half || x < y)) {
                        addLink(plan.from[a] * size + x, plan.to[a] * size + y, a, x);
                    }
                }
            }
            sortEnds();
        }

        private void addLink(int u, int v, int a, int x) {
            if (links >= MOST_LINKS || !has(u) || !has(v)) {
                return;
            }
            first[links] = u;
            second[links] = v;
            arcOf[links] = a;
            memberOf[links] = x;
            links++;
        }

        private void sortEnds() {
            Arrays.fill(start, 0);
            for (int l = 0; l < links; l++) {
                start[first[l] + 2]++;
                start[second[l] + 2]++;
            }
            for (int n = 2; n <= nodes + 1; n++) {
                start[n] += start[n - 1];
            }
            // start[n + 1] is where the next end of n goes; so it becomes where n's ends are over.
            for (int l = 0; l < links; l++) {
                ends[start[first[l] + 1]] = l;
                start[first[l] + 1]++;
                ends[start[second[l] + 1]] = l;
                start[second[l] + 1]++;
            }
        }

        boolean has(int n) {
            return n >= 0 && n < nodes;
        }

        int otherEnd(int l, int n) {
            return first[l] == n ? second[l] : first[l];
        }

        int endsAt(int n) {
            return start[n + 1] - start[n];
        }

        int linksBetween(int a, int b) {
            int many = 0;
            for (int l = 0; l < links; l++) {
                if (first[l] == a && second[l] == b || first[l] == b && second[l] == a) {
                    many++;
                }
            }
            return many;
        }

        int neighbourAt(int n, int i) {
            seen = 0;
            for (int e = start[n]; e < start[n + 1]; e++) {
                seen |= 1L << otherEnd(ends[e], n);
            }
            seen &= ~(1L << n);
            int ahead = i;
            for (int v = 0; v < nodes; v++) {
                if ((seen >> v & 1) == 1) {
                    if (ahead == 0) {
                        return v;
                    }
                    ahead--;
                }
            }
            return NONE;
        }

        int commonDegree() {
            for (int n = 1; n < nodes; n++) {
                if (endsAt(n) != endsAt(0)) {
                    return NONE;
                }
            }
            return endsAt(0);
        }

        /** Distances from a node over nodes that aren't barred: NONE where there is no way. */
        int spread(int root) {
            Arrays.fill(dist, NONE);
            dist[root] = 0;
            via[root] = NONE;
            branch[root] = root;
            queue[0] = root;
            int tail = 1;
            for (int head = 0; head < tail && head < MOST_NODES; head++) {
                int u = queue[head];
                for (int e = start[u]; e < start[u + 1]; e++) {
                    int v = otherEnd(ends[e], u);
                    if (dist[v] < 0 && (barred >> v & 1) == 0 && tail < MOST_NODES) {
                        dist[v] = dist[u] + 1;
                        via[v] = ends[e];
                        branch[v] = u == root ? v : branch[u];
                        queue[tail] = v;
                        tail++;
                    }
                }
            }
            return tail;
        }

        int countParts() {
            int many = 0;
            seen = 0;
            for (int n = 0; n < nodes; n++) {
                if ((seen >> n & 1) == 0) {
                    many++;
                    markReached(spread(n));
                }
            }
            return many;
        }

        private void markReached(int reached) {
            for (int i = 0; i < reached && i < MOST_NODES; i++) {
                seen |= 1L << queue[i];
            }
        }

        boolean isTwoColoured() {
            seen = 0;
            for (int n = 0; n < nodes; n++) {
                if ((seen >> n & 1) == 0) {
                    markReached(spread(n));
                    for (int l = 0; l < links; l++) {
                        int u = dist[first[l]];
                        if (u >= 0 && (u - dist[second[l]]) % 2 == 0) {
                            return false;
                        }
                    }
                }
            }
            return true;
        }

        int widest() {
            int most = 0;
            for (int n = 0; n < nodes; n++) {
                int reached = spread(n);
                if (reached < nodes) {
                    return NONE;
                }
                most = Math.max(most, dist[queue[reached - 1]]);
            }
            return most;
        }

        int within(int n, int r) {
            int reached = spread(n);
            int many = 0;
            for (int i = 0; i < reached && dist[queue[i]] <= r; i++) {
                many++;
            }
            return many;
        }

        int shortestRing() {
            int best = NO_RING;
            for (int n = 0; n < nodes; n++) {
                best = shorterFrom(n, best);
            }
            return best;
        }

        /** Spreads only as far as a ring shorter than best could be closed. */
        private int shorterFrom(int root, int known) {
            int best = known;
            Arrays.fill(dist, NONE);
            dist[root] = 0;
            via[root] = NONE;
            queue[0] = root;
            int tail = 1;
            for (int head = 0; head < tail && 2 * dist[queue[head]] + 1 < best; head++) {
                int u = queue[head];
                for (int e = start[u]; e < start[u + 1]; e++) {
                    int l = ends[e];
                    int v = otherEnd(l, u);
                    if (dist[v] >= 0) {
                        best = l == via[u] ? best : Math.min(best, dist[u] + dist[v] + 1);
                    } else if (tail < MOST_NODES) {
                        dist[v] = dist[u] + 1;
                        via[v] = l;
                        queue[tail] = v;
                        tail++;
                    }
                }
            }
            return best;
        }

        /** A ring through the root leaves it by one branch and comes back by another. */
        int shortestThrough(int root) {
            spread(root);
            int best = NO_RING;
            for (int l = 0; l < links; l++) {
                int u = first[l];
                int v = second[l];
                if (u == root && v == root) {
                    return 1;
                }
                boolean tree = via[u] == l || via[v] == l;
                if (dist[u] >= 0 && dist[v] >= 0 && !tree && branch[u] != branch[v]) {
                    best = Math.min(best, dist[u] + dist[v] + 1);
                }
            }
            return best;
        }

        void weighLinks(Plan plan, int twist) {
            if (weighed) {
                return;
            }
            for (int l = 0; l < links; l++) {
                weight[l] = plan.weightOf(arcOf[l], memberOf[l], twist);
            }
            weighed = true;
        }

        /** The least weight of a way from a node to each: NO_RING where there is none. */
        void lightFrom(int root) {
            Arrays.fill(cost, NO_RING);
            Arrays.fill(via, NONE);
            seen = 0;
            cost[root] = 0;
            for (int round = 0; round < nodes; round++) {
                int u = lightestUnseen();
                if (u < 0) {
                    return;
                }
                seen |= 1L << u;
                for (int e = start[u]; e < start[u + 1]; e++) {
                    int l = ends[e];
                    int v = otherEnd(l, u);
                    if (cost[u] + weight[l] < cost[v]) {
                        cost[v] = cost[u] + weight[l];
                        via[v] = l;
                    }
                }
            }
        }

        private int lightestUnseen() {
            int best = NONE;
            int least = NO_RING;
            for (int n = 0; n < nodes; n++) {
                if ((seen >> n & 1) == 0 && cost[n] < least) {
                    best = n;
                    least = cost[n];
                }
            }
            return best;
        }

        /** Each ring has, from a root on it, a link off the lightest ways, which closes it. */
        int lightestRing() {
            int best = NO_RING;
            for (int n = 0; n < nodes; n++) {
                lightFrom(n);
                for (int l = 0; l < links; l++) {
                    int u = first[l];
                    int v = second[l];
                    if (via[u] != l && via[v] != l) {
                        best = Math.min(best, cost[u] + cost[v] + weight[l]);
                    }
                }
            }
            return best;
        }
    }

    /** The first of the shortest rings, and how many rings there are of a length. */
    private static final class Rings {
        /** Whether the first ring below is that of the network as it is. */
        boolean known = false;
        int length = 0;
        final int[] path = new int[MOST_NODES];
        final Network net = new Network();
        /** How many links join two nodes; none from a node to itself. */
        private final int[] joined = new int[MOST_NODES * MOST_NODES];
        private final int[] near = new int[MOST_NODES * MOST_NODES];
        private final int[] nears = new int[MOST_NODES];
        /** From each node: in how many ways two links lead to where the ring begins. */
        private final int[] closings = new int[MOST_NODES];
        private final int[] line = new int[6];
        /** Nodes on the line ahead, as bits. */
        private long used = 0;

        void findFirst() {
            if (known) {
                return;
            }
            known = true;
            int shortest = net.shortestRing();
            length = shortest <= MOST_NODES ? shortest : 0;
            boolean done = length == 0;
            for (int s = 0; s < net.nodes && !done; s++) {
                path[0] = s;
                done = length == 1 ? net.linksBetween(s, s) > 0 : findFrom(s);
            }
            net.barred = 0;
        }

        /** The first ring whose least node is s, if there is one as short as any. */
        private boolean findFrom(int s) {
            for (int w = s + 1; w < net.nodes; w++) {
                int many = net.linksBetween(s, w);
                if (many > 0) {
                    path[1] = w;
                    net.barred |= 1L << w;
                    if (length == 2 ? many > 1 : findRest(s)) {
                        return true;
                    }
                    net.barred &= ~(1L << w);
                }
            }
            net.barred |= 1L << s;
            return false;
        }

        /** What isn't barred is no nearer to s than a shortest ring leaves it, so no step fails. */
        private boolean findRest(int s) {
            for (int k = 1; k < length - 1; k++) {
                net.spread(s);
                int next = leastAt(path[k], length - 1 - k);
                if (next < 0) {
                    return false;
                }
                path[k + 1] = next;
                net.barred |= 1L << next;
            }
            return true;
        }

        private int leastAt(int u, int distance) {
            int least = NONE;
            for (int e = net.start[u]; e < net.start[u + 1]; e++) {
                int v = net.otherEnd(net.ends[e], u);
                if (net.dist[v] == distance && (least < 0 || v < least)) {
                    least = v;
                }
            }
            return least;
        }

        int countOf(int size) {
            if (size == 1) {
                return countSelfLinks();
            }
            spreadOut();
            if (size == 2) {
                return countPairs();
            }
            long ways = 0;
            for (int s = 0; s < net.nodes; s++) {
                knowClosings(s);
                line[0] = s;
                ways += waysOn(s, 0, size);
            }
            // Each ring was gone round both ways.
            return (int) (ways / 2);
        }

        private int countSelfLinks() {
            int many = 0;
            for (int l = 0; l < net.links; l++) {
                many += net.first[l] == net.second[l] ? 1 : 0;
            }
            return many;
        }

        private int countPairs() {
            int many = 0;
            for (int u = 0; u < net.nodes; u++) {
                for (int v = 0; v < u; v++) {
                    int links = joined[u * MOST_NODES + v];
                    many += links * (links - 1) / 2;
                }
            }
            return many;
        }

        private void spreadOut() {
            Arrays.fill(joined, 0);
            Arrays.fill(nears, 0);
            used = 0;
            for (int l = 0; l < net.links; l++) {
                int u = net.first[l];
                int v = net.second[l];
                if (u != v) {
                    joinOnce(u, v);
                    joinOnce(v, u);
                }
            }
        }

        private void joinOnce(int u, int v) {
            if (joined[u * MOST_NODES + v] == 0 && nears[u] < MOST_NODES) {
                near[u * MOST_NODES + nears[u]] = v;
                nears[u]++;
            }
            joined[u * MOST_NODES + v]++;
        }

        private void knowClosings(int s) {
            Arrays.fill(closings, 0);
            for (int i = 0; i < nears[s]; i++) {
                int z = near[s * MOST_NODES + i];
                if (z > s) {
                    for (int j = 0; j < nears[z]; j++) {
                        int x = near[z * MOST_NODES + j];
                        closings[x] += joined[z * MOST_NODES + x] * joined[z * MOST_NODES + s];
                    }
                }
            }
        }

        /** Ways to go on from the node at a place of the line till the ring is closed. */
        private long waysOn(int at, int place, int size) {
            if (place >= size - 2 || place >= line.length - 1) {
                return waysToClose(at, place);
            }
            long ways = 0;
            used |= 1L << at;
            for (int i = 0; i < nears[at]; i++) {
                int w = near[at * MOST_NODES + i];
                if (w > line[0] && (used >> w & 1) == 0) {
                    line[place + 1] = w;
                    ways += joined[at * MOST_NODES + w] * waysOn(w, place + 1, size);
                }
            }
            used &= ~(1L << at);
            return ways;
        }

        /** All ways by one more node, less those by nodes that are on the line. */
        private long waysToClose(int at, int place) {
            int ways = closings[at];
            for (int i = 1; i < place; i++) {
                int z = line[i];
                ways -= joined[at * MOST_NODES + z] * joined[z * MOST_NODES + line[0]];
            }
            return ways;
        }
    }

    /** The search by hand for a regular network without short rings. */
    private static final class Hunt {
        static final int FOUND = 1;
        private static final int OPEN = 2;
        private static final int MOST_STEPS = 5000;
        private static final int HUNTED = 14;
        /** Four links a node at most, each of two nodes, and the step by which it is found. */
        private static final int DEEPEST = HUNTED * 2 + 1;

        private int degree = 0;
        private int ring = 0;
        private int nodes = 0;
        int outcome = 0;
        int steps = 0;
        int shutTimes = 0;
        /** For each node, as bits: whom it is joined to, who is shut out with it. */
        final int[] near = new int[HUNTED];
        private final int[] shut = new int[HUNTED];

        static boolean canBe(int d, int g, int n) {
            return d >= 2 && d <= 4 && g >= 3 && g <= 8 && n >= 1 && n <= HUNTED;
        }

        /** The same search again is answered from what is known of it. */
        void run(int d, int g, int n) {
            if (!canBe(d, g, n) || d == degree && g == ring && n == nodes) {
                return;
            }
            degree = d;
            ring = g;
            nodes = n;
            outcome = 0;
            steps = 0;
            shutTimes = 0;
            Arrays.fill(near, 0);
            Arrays.fill(shut, 0);
            makeStep(0);
        }

        private void makeStep(int depth) {
            if (steps >= MOST_STEPS || depth > DEEPEST) {
                outcome = OPEN;
                return;
            }
            steps++;
            int u = leastUnfilled();
            if (u < 0) {
                outcome = FOUND;
                return;
            }
            int partners = partnersOf(u);
            int before = shut[u];
            for (int v = u + 1; v < nodes; v++) {
                if ((partners >> v & 1) == 1) {
                    near[u] |= 1 << v;
                    near[v] |= 1 << u;
                    makeStep(depth + 1);
                    if (outcome != 0) {
                        return;
                    }
                    near[u] &= ~(1 << v);
                    near[v] &= ~(1 << u);
                    shut[u] |= 1 << v;
                    shutTimes++;
                }
            }
            shut[u] = before;
        }

        private boolean isUnfilled(int v) {
            return Integer.bitCount(near[v]) < degree;
        }

        private int leastUnfilled() {
            for (int v = 0; v < nodes; v++) {
                if (isUnfilled(v)) {
                    return v;
                }
            }
            return NONE;
        }

        private int partnersOf(int u) {
            int barred = shut[u] | tooNear(u);
            int partners = 0;
            boolean lone = false;
            for (int v = u + 1; v < nodes; v++) {
                boolean can = isUnfilled(v) && (barred >> v & 1) == 0;
                // Nodes without links are all alike: the least of them stands for the others.
                boolean alike = near[v] == 0 && lone;
                lone |= near[v] == 0;
                partners |= can && !alike ? 1 << v : 0;
            }
            return partners;
        }

        /** Nodes to which a way of fewer than ring - 1 links leads. */
        private int tooNear(int u) {
            int reached = 1 << u;
            for (int i = 0; i < ring - 2; i++) {
                int further = reached;
                for (int v = 0; v < nodes; v++) {
                    further |= (reached >> v & 1) == 1 ? near[v] : 0;
                }
                if (further == reached) {
                    return reached;
                }
                reached = further;
            }
            return reached;
        }
    }
}
