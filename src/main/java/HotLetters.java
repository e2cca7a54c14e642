import java.util.Arrays;

/**
 * A net without rooms to wait in: each letter that flies goes on in each turn, nearer to where it
 * is to come, or turned aside by one of a higher rank. The document ../shared/DOC.md says what
 * each call answers; the words used here (TURN, NEAR, RANK ..) are the document's.
 */
public final class HotLetters {
    public static final int NONE = -1000000, BAD = -1000001, STATE = -1000002, FULL = -1000003;

    private static final int FAULT_BASE = -1000100;
    private static final int MOST_BYTES = 140;
    private static final int MOST_TEXT_LETTERS = 16;
    private static final int MOST_LETTERS = 40;
    private static final int MOST_NODES = 16;
    private static final int MOST_GOLDEN = 4;
    private static final int MOST_ACTS = 8;
    private static final int MOST_IMAGES = 2;
    private static final int MOST_FORETOLD = 300;
    private static final int MOST_TURNS = 50;
    private static final int MOST_YEARS = 10;
    private static final int MOST_SEED = 999999;

    private static final int PORTS = 4;
    private static final int ALL_PORTS = 15;
    private static final int RING_SWAPS = 2;
    // Above what the weight of any letter can claim.
    private static final int GOLDEN_CLAIM = 1000000;

    private static final int SEALED = 1, EXPRESS = 2, TURNING = 3, OPEN = 4, CHEAP = 5;
    private static final int WAITS = 0, FLIES = 1, DELIVERED = 2, LOST = 3;
    private static final int CAUSE_LOST = 1, CAUSE_OLD = 2, CAUSE_OVERRUN = 3, CAUSE_CUT = 4;
    private static final int CANNOT_STAND = 1, NOT_AS_TOLD = 2, NO_ROOM = 3;

    private static final int[] SEALED_TASTE = {1, 3, 0, 2};
    private static final int[] OPEN_TASTE = {0, 2, 1, 3};

    private final Tape tape = new Tape();
    private final Net now = new Net();
    private final Turner turner = new Turner();
    private final Seer seer = new Seer(turner);
    private final Acts acts = new Acts();
    private final Net[] images = new Net[MOST_IMAGES];

    public HotLetters() {
        for (int k = 0; k < MOST_IMAGES; k++) {
            images[k] = new Net();
        }
    }

    // ---- what is told

    public int feed(int letter) {
        if (letter < 0 || letter > 255) {
            return BAD;
        }
        return tape.append(letter) ? tape.length : FULL;
    }

    public int net() {
        boolean sound = tape.readInto(seer.ghost);
        tape.length = 0;
        if (!sound) {
            return FAULT_BASE - tape.faultPlace;
        }
        now.takeOver(seer.ghost);
        acts.forgetAll();
        return now.written;
    }

    public int fault() {
        return tape.fault;
    }

    public int undo() {
        return acts.takeBack(now) ? acts.kept : STATE;
    }

    // ---- what is done

    public int write(int kind, int from, int to) {
        if (!now.isLaid()) {
            return STATE;
        }
        if (!isKind(kind) || !now.web.isNode(from) || !now.web.isNode(to) || from == to) {
            return BAD;
        }
        if (now.isFull()) {
            return FULL;
        }
        acts.keep(now);
        return now.add(kind, from, to);
    }

    public int bless(int letter) {
        if (!now.isLetter(letter)) {
            return BAD;
        }
        if (now.isGolden(letter) || now.letters[letter].isEnded()) {
            return STATE;
        }
        if (now.goldenCount >= MOST_GOLDEN) {
            return FULL;
        }
        acts.keep(now);
        now.makeGolden(letter, now.goldenCount);
        return now.goldenCount;
    }

    public int unbless(int letter) {
        if (!now.isLetter(letter)) {
            return BAD;
        }
        if (!now.isGolden(letter)) {
            return STATE;
        }
        acts.keep(now);
        now.dropGolden(letter);
        return now.goldenCount;
    }

    public int cut(int node, int port) {
        if (!now.web.isLaidLink(node, port)) {
            return BAD;
        }
        if (!now.web.isLink(node, port)) {
            return STATE;
        }
        acts.keep(now);
        now.web.sever(node, port);
        now.web.measure();
        return now.web.linkCount();
    }

    public int mend(int node, int port) {
        if (!now.web.isLaidLink(node, port)) {
            return BAD;
        }
        if (now.web.isLink(node, port)) {
            return STATE;
        }
        acts.keep(now);
        now.web.rejoin(node, port);
        now.web.measure();
        return now.web.linkCount();
    }

    public int turn(int n) {
        if (!now.isLaid()) {
            return STATE;
        }
        if (n < 1 || n > MOST_TURNS) {
            return BAD;
        }
        acts.keep(now);
        int before = now.loggedCount;
        for (int i = 0; i < n; i++) {
            turner.decide(now);
            turner.moveAll(now);
        }
        return now.loggedCount - before;
    }

    // ---- what there is

    public int letter(int letter, int what) {
        if (!now.isLetter(letter)) {
            return BAD;
        }
        Letter asked = now.letters[letter];
        switch (what) {
            case 0: return asked.kind;
            case 1: return asked.from;
            case 2: return asked.to;
            case 3: return asked.state;
            case 4: return asked.place;
            case 5: return asked.age;
            case 6: return asked.asides;
            case 7: return asked.weight();
            case 8: return asked.came;
            case 9: return asked.ended;
            case 10: return now.isGolden(letter) ? 1 : 0;
            default: return BAD;
        }
    }

    public int node(int node, int what) {
        if (!now.web.isNode(node)) {
            return BAD;
        }
        switch (what) {
            case 0: return now.countAt(node, FLIES);
            case 1: return now.web.open[node];
            case 2: return now.countAt(node, WAITS);
            case 3: return now.deliveredAt(node);
            case 4: return now.web.lastCut[node];
            default: return BAD;
        }
    }

    public int at(int node, int i) {
        if (!now.web.isNode(node) || i < 0) {
            return BAD;
        }
        turner.lineUpNow(now);
        return turner.inLineAt(now, node, i);
    }

    public int box(int node, int i) {
        if (!now.web.isNode(node) || i < 0) {
            return BAD;
        }
        return now.waitingAt(node, i);
    }

    public int rank(int i) {
        if (!now.isLaid()) {
            return STATE;
        }
        if (i < 0) {
            return BAD;
        }
        turner.lineUpNow(now);
        return i < turner.flying ? turner.order[i] : NONE;
    }

    public int golden(int i) {
        if (!now.isLaid()) {
            return STATE;
        }
        if (i < 0) {
            return BAD;
        }
        return i < now.goldenCount ? now.goldenOnes[i] : NONE;
    }

    public int log(int i) {
        if (!now.isLaid()) {
            return STATE;
        }
        if (i < 0) {
            return BAD;
        }
        return i < now.loggedCount ? now.logged[i] : NONE;
    }

    public int sums(int what) {
        if (!now.isLaid()) {
            return STATE;
        }
        switch (what) {
            case 0: return now.turn;
            case 1: return now.loggedCount;
            case 2: return now.countOf(LOST);
            case 3: return now.allAsides();
            case 4: return now.allAges();
            case 5: return now.greatestAgeDelivered();
            default: return BAD;
        }
    }

    public int far(int a, int b) {
        if (!now.web.isNode(a) || !now.web.isNode(b)) {
            return BAD;
        }
        return now.web.distance(a, b);
    }

    public int near(int letter, int i) {
        if (!now.isLetter(letter) || i < 0 || i >= PORTS) {
            return BAD;
        }
        return now.letters[letter].byTaste(now.nearPorts(letter), i);
    }

    public int why(int letter, int i, int what) {
        if (!now.isLetter(letter) || i < 0 || what < 0 || what > 1) {
            return BAD;
        }
        Letter asked = now.letters[letter];
        return what == 0 ? asked.causeKind(i) : asked.causeNumber(i);
    }

    // ---- foretold

    public int next(int letter) {
        if (!now.isLetter(letter)) {
            return BAD;
        }
        seer.imagine(now);
        turner.decide(seer.ghost);
        return turner.going[letter];
    }

    public int ends(int what) {
        if (!now.isLaid()) {
            return STATE;
        }
        if (what < 0 || what > 3) {
            return BAD;
        }
        seer.imagine(now);
        int turns = seer.letGo(NONE);
        if (!seer.ghost.isOver()) {
            return NONE;
        }
        switch (what) {
            case 0: return turns;
            case 1: return seer.ghost.lastEndedSince(now.turn);
            case 2: return seer.ghost.countOf(LOST) - now.countOf(LOST);
            default: return seer.ghost.greatestAsides();
        }
    }

    public int arrives(int letter) {
        if (!now.isLetter(letter)) {
            return BAD;
        }
        seer.imagine(now);
        seer.letGo(letter);
        Letter asked = seer.ghost.letters[letter];
        return asked.state == DELIVERED ? asked.ended : NONE;
    }

    public int worst(int from, int kind, int what) {
        if (!now.web.isNode(from) || !isKind(kind) || what < 0 || what > 1) {
            return BAD;
        }
        if (now.isFull()) {
            return FULL;
        }
        int most = NONE;
        int target = NONE;
        for (int to = 0; to < now.web.size; to++) {
            int turns = to == from ? NONE : seer.journey(now, kind, from, to);
            if (turns > most) {
                most = turns;
                target = to;
            }
        }
        return what == 0 ? most : target;
    }

    public int help() {
        if (!now.isLaid()) {
            return STATE;
        }
        int fewest = MOST_FORETOLD + 1;
        int best = NONE;
        for (int i = 0; i < now.written; i++) {
            if (now.letters[i].isEnded()) {
                continue;
            }
            int turns = seer.turnsWithFirstGolden(now, i);
            if (turns != NONE && turns < fewest) {
                fewest = turns;
                best = i;
            }
        }
        return best;
    }

    public int bridges(int what) {
        if (!now.isLaid()) {
            return STATE;
        }
        if (what < 0 || what > 1) {
            return BAD;
        }
        int found = 0;
        int first = NONE;
        for (int end = 0; end < PORTS * now.web.size; end++) {
            if (now.web.isLesserEnd(end) && now.web.parts(end)) {
                first = found == 0 ? end : first;
                found++;
            }
        }
        return what == 0 ? found : first;
    }

    public long odds(int letter, int node, int p, int what) {
        if (!now.isLetter(letter) || !now.web.isNode(node)) {
            return BAD;
        }
        if (p < 0 || p > 10 || what < 0 || what > 1) {
            return BAD;
        }
        int links = now.web.open[node];
        long above = 0;
        long below = 0;
        for (int failed = 0; failed <= ALL_PORTS; failed++) {
            if ((failed & links) != failed) {
                continue;
            }
            long cases = casesOf(links, failed, p);
            below += cases;
            if (cases > 0 && seer.comesWithout(now, letter, node, failed)) {
                above += cases;
            }
        }
        long shared = commonDivisor(above, below);
        if (shared < 1) {
            return NONE;
        }
        return (what == 0 ? above : below) / shared;
    }

    public int drawn(int n, int seed, int what) {
        if (!now.isLaid()) {
            return STATE;
        }
        if (n < 0 || n > MOST_YEARS || seed < 1 || seed > MOST_SEED || what < 0 || what > 2) {
            return BAD;
        }
        seer.imagine(now);
        seer.passYears(n, seed);
        int turns = seer.letGo(NONE);
        switch (what) {
            case 0: return seer.ghost.isOver() ? turns : NONE;
            case 1: return seer.ghost.countOf(LOST);
            default: return seer.ghost.allAsides();
        }
    }

    public int image(int k) {
        if (k < 0 || k >= MOST_IMAGES) {
            return BAD;
        }
        if (!now.isLaid()) {
            return STATE;
        }
        images[k].takeOver(now);
        return 1;
    }

    public int restore(int k) {
        if (k < 0 || k >= MOST_IMAGES) {
            return BAD;
        }
        // Only a NET is ever kept, so an image without nodes is one that was never taken.
        if (!images[k].isLaid()) {
            return STATE;
        }
        now.takeOver(images[k]);
        acts.forgetAll();
        return 1;
    }

    public int count(int what) {
        switch (what) {
            case 0: return now.web.size;
            case 1: return now.written;
            case 2: return now.countOf(WAITS);
            case 3: return now.countOf(FLIES);
            case 4: return now.web.linkCount();
            case 5: return acts.kept;
            case 6: return tape.length;
            default: return BAD;
        }
    }

    private static boolean isKind(int kind) {
        return kind >= SEALED && kind <= CHEAP;
    }

    /** Of all 10 to the power of the number of links, the cases in which just these fail. */
    private static long casesOf(int links, int failed, int p) {
        long cases = 1;
        for (int port = 0; port < PORTS; port++) {
            if ((links >> port & 1) == 1) {
                cases *= (failed >> port & 1) == 1 ? p : 10 - p;
            }
        }
        return cases;
    }

    private static long commonDivisor(long a, long b) {
        long greater = b;
        long rest = a;
        // Euclid's steps for numbers up to 10000 are far fewer than 64.
        for (int step = 0; step < 64 && rest != 0; step++) {
            long left = greater % rest;
            greater = rest;
            rest = left;
        }
        return greater;
    }

    /** One letter: what was written on it, and how it has fared. */
    private static final class Letter {
        int kind, from, to;
        int state;
        int place;
        int came;
        int age;
        int asides;
        int ended;
        int cause;
        int overrunNode;
        int overrunPort;

        void begin(int itsKind, int itsFrom, int itsTo) {
            kind = itsKind;
            from = itsFrom;
            to = itsTo;
            state = WAITS;
            place = itsFrom;
            came = NONE;
            age = 0;
            asides = 0;
            ended = NONE;
            cause = NONE;
            overrunNode = NONE;
            overrunPort = NONE;
        }

        void takeOver(Letter other) {
            kind = other.kind;
            from = other.from;
            to = other.to;
            state = other.state;
            place = other.place;
            came = other.came;
            age = other.age;
            asides = other.asides;
            ended = other.ended;
            cause = other.cause;
            overrunNode = other.overrunNode;
            overrunPort = other.overrunPort;
        }

        void end(int howItEnds, int turn) {
            state = howItEnds;
            place = NONE;
            came = NONE;
            ended = turn;
        }

        boolean isEnded() {
            return state == DELIVERED || state == LOST;
        }

        int weight() {
            switch (kind) {
                case EXPRESS: return 2 * age;
                case CHEAP: return age / 2;
                default: return age;
            }
        }

        /** Of these ports (bits) number i in the order of its TASTE. */
        int byTaste(int ports, int i) {
            int[] taste = kind >= OPEN ? OPEN_TASTE : SEALED_TASTE;
            boolean turns = kind == TURNING && came != NONE;
            int left = i;
            for (int k = 0; k < PORTS; k++) {
                int port = turns ? (came + 1 + k) & 3 : taste[k];
                if ((ports >> port & 1) == 1) {
                    if (left == 0) {
                        return port;
                    }
                    left--;
                }
            }
            return NONE;
        }

        int causeKind(int i) {
            if (state != LOST) {
                return NONE;
            }
            switch (i) {
                case 0: return CAUSE_LOST;
                case 1: return cause;
                case 2: return overrunPort != NONE ? CAUSE_CUT : NONE;
                default: return NONE;
            }
        }

        int causeNumber(int i) {
            if (state != LOST) {
                return NONE;
            }
            switch (i) {
                case 0: return ended;
                case 1: return cause == CAUSE_OLD ? age : overrunNode;
                case 2: return overrunPort;
                default: return NONE;
            }
        }
    }

    /** Nodes and links; an end of a link is told as 4 times its node, and its port. */
    private static final class Web {
        int size;
        int way;
        final int[] open = new int[MOST_NODES];
        final int[] lastCut = new int[MOST_NODES];
        private final int[] beyond = new int[PORTS * MOST_NODES];
        private final int[] apart = new int[MOST_NODES * MOST_NODES];
        private final int[] steps = new int[MOST_NODES];
        private final int[] reached = new int[MOST_NODES];

        void lay(int width, int height, int itsWay) {
            size = width * height;
            way = itsWay;
            for (int y = 0; y < height; y++) {
                for (int x = 0; x < width; x++) {
                    int node = y * width + x;
                    int west = within(x - 1, width);
                    int east = within(x + 1, width);
                    int north = within(y - 1, height);
                    int south = within(y + 1, height);
                    open[node] = 0;
                    lastCut[node] = NONE;
                    layPort(node, 0, north == NONE ? NONE : north * width + x);
                    layPort(node, 1, east == NONE ? NONE : y * width + east);
                    layPort(node, 2, south == NONE ? NONE : south * width + x);
                    layPort(node, 3, west == NONE ? NONE : y * width + west);
                }
            }
            measure();
        }

        private int within(int spot, int length) {
            if (spot >= 0 && spot < length) {
                return spot;
            }
            if (way == 0) {
                return NONE;
            }
            return spot < 0 ? length - 1 : 0;
        }

        private void layPort(int node, int port, int other) {
            beyond[PORTS * node + port] = other;
            if (other != NONE) {
                open[node] |= 1 << port;
            }
        }

        void takeOver(Web other) {
            size = other.size;
            way = other.way;
            System.arraycopy(other.open, 0, open, 0, MOST_NODES);
            System.arraycopy(other.lastCut, 0, lastCut, 0, MOST_NODES);
            System.arraycopy(other.beyond, 0, beyond, 0, PORTS * MOST_NODES);
            System.arraycopy(other.apart, 0, apart, 0, MOST_NODES * MOST_NODES);
        }

        boolean isNode(int node) {
            return node >= 0 && node < size;
        }

        /** Whether a link was laid there, be it cut since or not. */
        boolean isLaidLink(int node, int port) {
            return isNode(node) && port >= 0 && port < PORTS && beyond[PORTS * node + port] != NONE;
        }

        boolean isLink(int node, int port) {
            return isNode(node) && port >= 0 && port < PORTS && (open[node] >> port & 1) == 1;
        }

        int linksOf(int node) {
            return isNode(node) ? Integer.bitCount(open[node]) : 0;
        }

        int linkCount() {
            int ends = 0;
            for (int node = 0; node < size; node++) {
                ends += Integer.bitCount(open[node]);
            }
            return ends / 2;
        }

        boolean swapsAt(int node) {
            return way == RING_SWAPS && isNode(node) && open[node] == ALL_PORTS;
        }

        static int portAcross(int port) {
            return port ^ 2;
        }

        int nodeBeyond(int node, int port) {
            return isLaidLink(node, port) ? beyond[PORTS * node + port] : NONE;
        }

        /** The distances are left as they were, so that several links can be cut ahead of measure. */
        void sever(int node, int port) {
            if (!isLink(node, port)) {
                return;
            }
            int other = beyond[PORTS * node + port];
            open[node] &= ~(1 << port);
            open[other] &= ~(1 << portAcross(port));
            lastCut[node] = port;
            lastCut[other] = portAcross(port);
        }

        void rejoin(int node, int port) {
            if (!isLaidLink(node, port)) {
                return;
            }
            open[node] |= 1 << port;
            open[beyond[PORTS * node + port]] |= 1 << portAcross(port);
        }

        void measure() {
            for (int start = 0; start < size; start++) {
                flood(start, NONE);
                System.arraycopy(steps, 0, apart, MOST_NODES * start, MOST_NODES);
            }
        }

        /** Counts the steps from a node to all others, without going out by one end of a link. */
        private void flood(int start, int shunned) {
            Arrays.fill(steps, NONE);
            steps[start] = 0;
            reached[0] = start;
            int known = 1;
            for (int i = 0; i < known && i < MOST_NODES; i++) {
                int node = reached[i];
                for (int port = 0; port < PORTS; port++) {
                    int end = PORTS * node + port;
                    if (end == shunned || (open[node] >> port & 1) == 0) {
                        continue;
                    }
                    int other = beyond[end];
                    if (steps[other] == NONE && known < MOST_NODES) {
                        steps[other] = steps[node] + 1;
                        reached[known] = other;
                        known++;
                    }
                }
            }
        }

        int distance(int a, int b) {
            return isNode(a) && isNode(b) ? apart[MOST_NODES * a + b] : NONE;
        }

        /** The ports of a node whose links lead to nodes less far from another one (bits). */
        int portsTowards(int node, int target) {
            if (!isNode(node) || !isNode(target)) {
                return 0;
            }
            int row = MOST_NODES * target;
            int ports = 0;
            for (int port = 0; port < PORTS; port++) {
                // Where there is no way, it is NONE at both ends of a link: no port is nearer.
                if ((open[node] >> port & 1) == 1
                        && apart[row + beyond[PORTS * node + port]] < apart[row + node]) {
                    ports |= 1 << port;
                }
            }
            return ports;
        }

        boolean isLesserEnd(int end) {
            int node = end >> 2;
            int port = end & 3;
            return isLink(node, port) && beyond[end] > node;
        }

        /** Whether a cut of the link at this end would leave its two nodes without a way. */
        boolean parts(int end) {
            int node = end >> 2;
            if (!isLink(node, end & 3)) {
                return false;
            }
            flood(node, end);
            return steps[beyond[end]] == NONE;
        }
    }

    /** All that a NET is at one time: its web, its letters, who is golden, who was delivered. */
    private static final class Net {
        final Web web = new Web();
        final Letter[] letters = new Letter[MOST_LETTERS];
        int written;
        int life;
        int turn;
        // One more than may be blessed: what is foretold puts a letter ahead of all four.
        final int[] goldenOnes = new int[MOST_GOLDEN + 1];
        int goldenCount;
        final int[] logged = new int[MOST_LETTERS];
        int loggedCount;

        Net() {
            for (int i = 0; i < MOST_LETTERS; i++) {
                letters[i] = new Letter();
            }
        }

        void begin(int width, int height, int way, int itsLife) {
            web.lay(width, height, way);
            life = itsLife;
            written = 0;
            turn = 0;
            goldenCount = 0;
            loggedCount = 0;
        }

        void takeOver(Net other) {
            web.takeOver(other.web);
            written = other.written;
            life = other.life;
            turn = other.turn;
            goldenCount = other.goldenCount;
            loggedCount = other.loggedCount;
            for (int i = 0; i < written; i++) {
                letters[i].takeOver(other.letters[i]);
            }
            System.arraycopy(other.goldenOnes, 0, goldenOnes, 0, goldenCount);
            System.arraycopy(other.logged, 0, logged, 0, loggedCount);
        }

        boolean isLaid() {
            return web.size > 0;
        }

        boolean isLetter(int letter) {
            return letter >= 0 && letter < written;
        }

        boolean isFull() {
            return written >= MOST_LETTERS;
        }

        int add(int kind, int from, int to) {
            if (isFull()) {
                return FULL;
            }
            letters[written].begin(kind, from, to);
            written++;
            return written - 1;
        }

        boolean isGolden(int letter) {
            return goldenSpot(letter) != NONE;
        }

        private int goldenSpot(int letter) {
            for (int i = 0; i < goldenCount; i++) {
                if (goldenOnes[i] == letter) {
                    return i;
                }
            }
            return NONE;
        }

        void makeGolden(int letter, int spot) {
            if (spot < 0 || spot > goldenCount || goldenCount > MOST_GOLDEN) {
                return;
            }
            for (int i = goldenCount; i > spot; i--) {
                goldenOnes[i] = goldenOnes[i - 1];
            }
            goldenOnes[spot] = letter;
            goldenCount++;
        }

        void dropGolden(int letter) {
            int spot = goldenSpot(letter);
            if (spot == NONE) {
                return;
            }
            goldenCount--;
            for (int i = spot; i < goldenCount; i++) {
                goldenOnes[i] = goldenOnes[i + 1];
            }
        }

        int theGoldenOne() {
            for (int i = 0; i < goldenCount; i++) {
                if (letters[goldenOnes[i]].state == FLIES) {
                    return goldenOnes[i];
                }
            }
            return NONE;
        }

        int nearPorts(int letter) {
            Letter asked = letters[letter];
            return asked.isEnded() ? 0 : web.portsTowards(asked.place, asked.to);
        }

        void deliver(int letter) {
            if (loggedCount < MOST_LETTERS) {
                logged[loggedCount] = letter;
                loggedCount++;
            }
            dropGolden(letter);
            letters[letter].end(DELIVERED, turn);
        }

        void loseOld(int letter) {
            dropGolden(letter);
            letters[letter].cause = CAUSE_OLD;
            letters[letter].end(LOST, turn);
        }

        void loseOverrun(int letter) {
            Letter lost = letters[letter];
            dropGolden(letter);
            lost.cause = CAUSE_OVERRUN;
            lost.overrunNode = lost.place;
            // Kept now: a later cut at that node is no cause of this loss.
            lost.overrunPort = web.isNode(lost.place) ? web.lastCut[lost.place] : NONE;
            lost.end(LOST, turn);
        }

        int countOf(int state) {
            int found = 0;
            for (int i = 0; i < written; i++) {
                if (letters[i].state == state) {
                    found++;
                }
            }
            return found;
        }

        int countAt(int node, int state) {
            int found = 0;
            for (int i = 0; i < written; i++) {
                if (letters[i].state == state && letters[i].place == node) {
                    found++;
                }
            }
            return found;
        }

        int deliveredAt(int node) {
            int found = 0;
            for (int i = 0; i < loggedCount; i++) {
                if (letters[logged[i]].to == node) {
                    found++;
                }
            }
            return found;
        }

        /** A box fills in the order in which letters are written, so it is told by their numbers. */
        int waitingAt(int node, int i) {
            int left = i;
            for (int letter = 0; letter < written; letter++) {
                if (letters[letter].state == WAITS && letters[letter].place == node) {
                    if (left == 0) {
                        return letter;
                    }
                    left--;
                }
            }
            return NONE;
        }

        boolean isOver() {
            return countOf(WAITS) == 0 && countOf(FLIES) == 0;
        }

        /** Whether a TURN can still change a letter: one that waits where all is cut never will. */
        boolean canStir() {
            for (int i = 0; i < written; i++) {
                int state = letters[i].state;
                if (state == FLIES || state == WAITS && web.linksOf(letters[i].place) > 0) {
                    return true;
                }
            }
            return false;
        }

        int allAsides() {
            int sum = 0;
            for (int i = 0; i < written; i++) {
                sum += letters[i].asides;
            }
            return sum;
        }

        int allAges() {
            int sum = 0;
            for (int i = 0; i < written; i++) {
                sum += letters[i].age;
            }
            return sum;
        }

        int greatestAgeDelivered() {
            int greatest = NONE;
            for (int i = 0; i < loggedCount; i++) {
                greatest = Math.max(greatest, letters[logged[i]].age);
            }
            return greatest;
        }

        int greatestAsides() {
            int greatest = 0;
            for (int i = 0; i < written; i++) {
                greatest = Math.max(greatest, letters[i].asides);
            }
            return greatest;
        }

        int lastEndedSince(int start) {
            int last = NONE;
            int latest = start;
            for (int i = 0; i < written; i++) {
                if (letters[i].ended >= latest) {
                    latest = letters[i].ended;
                    last = i;
                }
            }
            return last;
        }
    }

    /** Makes the TURNS; its rows are used again for each, so that a TURN makes no objects. */
    private static final class Turner {
        final int[] order = new int[MOST_LETTERS];
        final int[] going = new int[MOST_LETTERS];
        int flying;
        private int goldenOne;
        private final int[] claims = new int[MOST_LETTERS];
        private final int[] near = new int[MOST_LETTERS];
        private final int[] crowd = new int[MOST_NODES];
        private final int[] chosen = new int[MOST_NODES];
        private final int[] free = new int[MOST_NODES];
        private final int[] seats = new int[PORTS];
        private final int[] halls = new int[PORTS];

        /** Steps 1 to 5 of a TURN; behind it, going tells by which port each letter goes. */
        void decide(Net net) {
            goldenOne = net.theGoldenOne();
            Arrays.fill(going, NONE);
            lineUp(net);
            deliverFirsts(net);
            loseOldOnes(net);
            loseTooMany(net);
            putIn(net);
            lineUp(net);
            givePorts(net);
        }

        /** Step 6 of a TURN. */
        void moveAll(Net net) {
            for (int i = 0; i < flying; i++) {
                Letter letter = net.letters[order[i]];
                int port = going[order[i]];
                int other = net.web.nodeBeyond(letter.place, port);
                if (other == NONE) {
                    continue;
                }
                int before = net.web.distance(letter.place, letter.to);
                // Where there is no way, both are NONE: the letter is turned aside there, too.
                if (net.web.distance(other, letter.to) >= before) {
                    letter.asides++;
                }
                letter.place = other;
                letter.came = Web.portAcross(port);
                letter.age++;
            }
            net.turn++;
        }

        /** RANK between two TURNS is as the next one will have it. */
        void lineUpNow(Net net) {
            goldenOne = net.theGoldenOne();
            lineUp(net);
        }

        int inLineAt(Net net, int node, int i) {
            int left = i;
            for (int k = 0; k < flying; k++) {
                if (net.letters[order[k]].place == node) {
                    if (left == 0) {
                        return order[k];
                    }
                    left--;
                }
            }
            return NONE;
        }

        private void lineUp(Net net) {
            flying = 0;
            for (int letter = 0; letter < net.written; letter++) {
                if (net.letters[letter].state != FLIES) {
                    continue;
                }
                int claim = claimOf(net, letter);
                claims[letter] = claim;
                int spot = flying;
                while (spot > 0 && claims[order[spot - 1]] < claim) {
                    order[spot] = order[spot - 1];
                    spot--;
                }
                order[spot] = letter;
                flying++;
            }
        }

        /** RANK as one number: no two letters have the same, and the higher rank has the greater. */
        private int claimOf(Net net, int letter) {
            if (letter == goldenOne) {
                return GOLDEN_CLAIM;
            }
            return MOST_LETTERS * (net.letters[letter].weight() + 1) - letter;
        }

        private void deliverFirsts(Net net) {
            Arrays.fill(chosen, NONE);
            for (int i = 0; i < flying; i++) {
                Letter letter = net.letters[order[i]];
                if (letter.place == letter.to && chosen[letter.to] == NONE) {
                    chosen[letter.to] = order[i];
                }
            }
            for (int node = 0; node < net.web.size; node++) {
                if (chosen[node] != NONE) {
                    net.deliver(chosen[node]);
                }
            }
        }

        private void loseOldOnes(Net net) {
            for (int i = 0; i < flying; i++) {
                Letter letter = net.letters[order[i]];
                if (letter.state == FLIES && letter.age >= net.life) {
                    net.loseOld(order[i]);
                }
            }
        }

        private void loseTooMany(Net net) {
            Arrays.fill(crowd, 0);
            for (int i = 0; i < flying; i++) {
                Letter letter = net.letters[order[i]];
                if (letter.state != FLIES) {
                    continue;
                }
                if (crowd[letter.place] >= net.web.linksOf(letter.place)) {
                    net.loseOverrun(order[i]);
                } else {
                    crowd[letter.place]++;
                }
            }
        }

        private void putIn(Net net) {
            Arrays.fill(chosen, NONE);
            for (int i = 0; i < net.written; i++) {
                Letter letter = net.letters[i];
                if (letter.state != WAITS || chosen[letter.place] != NONE) {
                    continue;
                }
                chosen[letter.place] = i;
                if (crowd[letter.place] < net.web.linksOf(letter.place)) {
                    letter.state = FLIES;
                    crowd[letter.place]++;
                }
            }
        }

        private void givePorts(Net net) {
            System.arraycopy(net.web.open, 0, free, 0, MOST_NODES);
            for (int i = 0; i < flying; i++) {
                near[order[i]] = net.nearPorts(order[i]);
                if (!net.web.swapsAt(net.letters[order[i]].place)) {
                    takePort(net, order[i]);
                }
            }
            for (int node = 0; node < net.web.size; node++) {
                if (crowd[node] > 0 && net.web.swapsAt(node)) {
                    seatAll(net, node);
                    goToHalls(net);
                    leaveHalls(net);
                }
            }
        }

        private void takePort(Net net, int number) {
            Letter letter = net.letters[number];
            int left = free[letter.place];
            int port = letter.byTaste(near[number] & left, 0);
            if (port == NONE) {
                port = leastOf(left);
            }
            if (port != NONE) {
                going[number] = port;
                free[letter.place] = left & ~(1 << port);
            }
        }

        private static int leastOf(int ports) {
            for (int port = 0; port < PORTS; port++) {
                if ((ports >> port & 1) == 1) {
                    return port;
                }
            }
            return NONE;
        }

        /** Two letters never came by one port; at most one was just put in and came by none. */
        private void seatAll(Net net, int node) {
            Arrays.fill(seats, NONE);
            int newcomer = NONE;
            for (int i = 0; i < flying; i++) {
                Letter letter = net.letters[order[i]];
                if (letter.place != node) {
                    continue;
                }
                if (letter.came == NONE) {
                    newcomer = order[i];
                } else {
                    seats[letter.came] = order[i];
                }
            }
            for (int seat = 0; seat < PORTS && newcomer != NONE; seat++) {
                if (seats[seat] == NONE) {
                    seats[seat] = newcomer;
                    newcomer = NONE;
                }
            }
        }

        /** Halls 0 and 1 are the upper block (from seats 0, 1 and 2, 3), halls 2 and 3 the lower. */
        private void goToHalls(Net net) {
            for (int block = 0; block < 2; block++) {
                int first = higher(seats[2 * block], seats[2 * block + 1]);
                int other = first == seats[2 * block] ? seats[2 * block + 1] : seats[2 * block];
                int side = first == NONE ? 0 : wish(net, first) >> 1;
                halls[2 * side + block] = first;
                halls[2 * (1 - side) + block] = other;
            }
        }

        private void leaveHalls(Net net) {
            for (int side = 0; side < 2; side++) {
                int first = higher(halls[2 * side], halls[2 * side + 1]);
                if (first == NONE) {
                    continue;
                }
                int other = first == halls[2 * side] ? halls[2 * side + 1] : halls[2 * side];
                int wished = wish(net, first);
                int port = wished >> 1 == side ? wished : 2 * side;
                going[first] = port;
                if (other != NONE) {
                    going[other] = port ^ 1;
                }
            }
        }

        private int higher(int a, int b) {
            if (a == NONE || b == NONE) {
                return a == NONE ? b : a;
            }
            return claims[a] > claims[b] ? a : b;
        }

        private int wish(Net net, int number) {
            int port = net.letters[number].byTaste(near[number], 0);
            return port == NONE ? number & 3 : port;
        }
    }

    /** Tries out on a ghost of the net what would become of it. */
    private static final class Seer {
        final Net ghost = new Net();
        private final Turner turner;

        Seer(Turner itsTurner) {
            turner = itsTurner;
        }

        void imagine(Net net) {
            ghost.takeOver(net);
        }

        /**
         * LET GO: how many TURNS that takes. It stops before, where only one letter is watched and
         * that has ended, or where nothing can stir any more, as later TURNS would tell the same.
         */
        int letGo(int watched) {
            int turns = 0;
            while (turns < MOST_FORETOLD && ghost.canStir()) {
                if (ghost.isLetter(watched) && ghost.letters[watched].isEnded()) {
                    break;
                }
                turner.decide(ghost);
                turner.moveAll(ghost);
                turns++;
            }
            return turns;
        }

        int journey(Net net, int kind, int from, int to) {
            imagine(net);
            int number = ghost.add(kind, from, to);
            letGo(number);
            if (!ghost.isLetter(number) || !ghost.letters[number].isEnded()) {
                return MOST_FORETOLD;
            }
            return ghost.letters[number].ended - net.turn;
        }

        int turnsWithFirstGolden(Net net, int letter) {
            imagine(net);
            ghost.dropGolden(letter);
            ghost.makeGolden(letter, 0);
            int turns = letGo(NONE);
            return ghost.isOver() ? turns : NONE;
        }

        boolean comesWithout(Net net, int letter, int node, int failed) {
            imagine(net);
            for (int port = 0; port < PORTS; port++) {
                if ((failed >> port & 1) == 1) {
                    ghost.web.sever(node, port);
                }
            }
            ghost.web.measure();
            letGo(letter);
            return ghost.letters[letter].state == DELIVERED;
        }

        void passYears(int n, int seed) {
            int nodes = ghost.web.size;
            long x = seed;
            for (int year = 0; year < n && nodes > 1; year++) {
                x = x * 16807 % 2147483647;
                int from = (int) (x % nodes);
                int to = (int) (x / 32 % nodes);
                if (to == from) {
                    to = (to + 1) % nodes;
                }
                // Where there is no room, add writes nothing.
                ghost.add(1 + (int) (x / 1024 % 5), from, to);
                turner.decide(ghost);
                turner.moveAll(ghost);
            }
        }
    }

    /** The last nets ahead of an ACT, in a ring that forgets the oldest. */
    private static final class Acts {
        private final Net[] before = new Net[MOST_ACTS];
        private int top;
        int kept;

        Acts() {
            for (int i = 0; i < MOST_ACTS; i++) {
                before[i] = new Net();
            }
        }

        void keep(Net net) {
            before[top].takeOver(net);
            top = (top + 1) % MOST_ACTS;
            kept = Math.min(kept + 1, MOST_ACTS);
        }

        boolean takeBack(Net net) {
            if (kept == 0) {
                return false;
            }
            top = (top + MOST_ACTS - 1) % MOST_ACTS;
            kept--;
            net.takeOver(before[top]);
            return true;
        }

        void forgetAll() {
            kept = 0;
        }
    }

    /** The bytes that came, and how they are read, token by token, up to the first fault. */
    private static final class Tape {
        private final int[] bytes = new int[MOST_BYTES];
        int length;
        int fault;
        int faultPlace;
        private int spot;
        private int number;
        private int numberSpot;

        boolean append(int letter) {
            if (length >= MOST_BYTES) {
                return false;
            }
            bytes[length] = letter;
            length++;
            return true;
        }

        boolean readInto(Net draft) {
            spot = 0;
            return readHead(draft) && readCuts(draft) && readLetters(draft);
        }

        private boolean readHead(Net draft) {
            if (!takeSign('g') || !takeNumber(2, 4)) {
                return false;
            }
            int width = number;
            if (!takeSign(',') || !takeNumber(2, 4)) {
                return false;
            }
            int height = number;
            if (!takeSign(',') || !takeNumber(0, 2)) {
                return false;
            }
            int way = number;
            if (!takeSign(',') || !takeNumber(10, 99) || !takeSign(';')) {
                return false;
            }
            draft.begin(width, height, way, number);
            return true;
        }

        private boolean readCuts(Net draft) {
            // Each round takes a byte at least, so there are no more rounds than bytes.
            for (int i = 0; i < MOST_BYTES && spot < length && bytes[spot] == 'c'; i++) {
                spot++;
                if (!takeNumber(0, draft.web.size - 1)) {
                    return false;
                }
                int node = number;
                if (!takeSign(',') || !takeNumber(0, PORTS - 1)) {
                    return false;
                }
                if (!draft.web.isLink(node, number)) {
                    return fail(NOT_AS_TOLD, numberSpot);
                }
                draft.web.sever(node, number);
                if (!takeSign(';')) {
                    return false;
                }
            }
            draft.web.measure();
            return true;
        }

        private boolean readLetters(Net draft) {
            for (int i = 0; i < MOST_BYTES && spot < length; i++) {
                int kind = kindOf(bytes[spot]);
                if (kind == NONE) {
                    return fail(CANNOT_STAND, spot);
                }
                if (draft.written >= MOST_TEXT_LETTERS) {
                    return fail(NO_ROOM, spot);
                }
                spot++;
                if (!takeNumber(0, draft.web.size - 1)) {
                    return false;
                }
                int from = number;
                if (!takeSign(',') || !takeNumber(0, draft.web.size - 1)) {
                    return false;
                }
                if (number == from) {
                    return fail(NOT_AS_TOLD, numberSpot);
                }
                draft.add(kind, from, number);
                if (!takeSign(';')) {
                    return false;
                }
            }
            return true;
        }

        private static int kindOf(int sort) {
            switch (sort) {
                case 's': return SEALED;
                case 'x': return EXPRESS;
                case 't': return TURNING;
                case 'o': return OPEN;
                case 'h': return CHEAP;
                default: return NONE;
            }
        }

        private boolean takeSign(char sign) {
            if (spot >= length || bytes[spot] != sign) {
                return fail(CANNOT_STAND, spot);
            }
            spot++;
            return true;
        }

        private boolean takeNumber(int least, int most) {
            int figures = 0;
            number = 0;
            numberSpot = spot;
            // A third figure is looked for, as with it the run is no token at all.
            while (figures < 3 && spot + figures < length && isFigure(bytes[spot + figures])) {
                number = 10 * number + bytes[spot + figures] - '0';
                figures++;
            }
            if (figures < 1 || figures > 2) {
                return fail(CANNOT_STAND, spot);
            }
            if (number < least || number > most) {
                return fail(NOT_AS_TOLD, spot);
            }
            spot += figures;
            return true;
        }

        private static boolean isFigure(int letter) {
            return letter >= '0' && letter <= '9';
        }

        private boolean fail(int itsFault, int place) {
            fault = itsFault;
            faultPlace = place;
            return false;
        }
    }
}
