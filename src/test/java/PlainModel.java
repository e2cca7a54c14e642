import java.util.ArrayDeque;
import java.util.ArrayList;
import java.util.Arrays;
import java.util.Collections;
import java.util.Comparator;
import java.util.Deque;
import java.util.HashMap;
import java.util.List;
import java.util.Map;
import java.util.TreeMap;
import java.util.function.ToIntFunction;

/**
 * The document once more, written as literally as can be and apart from HotLetters: boxes are
 * queues, links are objects, ways are found by trying all, nothing is used again or cut short.
 * ModelTest lets both answer the same calls.
 */
final class PlainModel {
    static final int NONE = -1000000, BAD = -1000001, STATE = -1000002, FULL = -1000003;

    private static final List<String> STATES = List.of("waits", "flies", "delivered", "lost");

    static final class Letter {
        final int number, kind, from, to;
        String state = "waits";
        Integer node, came, ended;
        int age, asides;
        final List<int[]> why = new ArrayList<>();

        Letter(int number, int kind, int from, int to) {
            this.number = number;
            this.kind = kind;
            this.from = from;
            this.to = to;
            this.node = from;
        }

        Letter copy() {
            Letter c = new Letter(number, kind, from, to);
            c.state = state;
            c.node = node;
            c.came = came;
            c.ended = ended;
            c.age = age;
            c.asides = asides;
            c.why.addAll(why);
            return c;
        }

        boolean is(String what) {
            return state.equals(what);
        }

        boolean lives() {
            return is("waits") || is("flies");
        }

        int weight() {
            return kind == 2 ? age + age : kind == 5 ? (age - age % 2) / 2 : age;
        }

        List<Integer> taste() {
            if (kind == 4 || kind == 5) {
                return List.of(0, 2, 1, 3);
            }
            if (kind == 3 && came != null) {
                return List.of((came + 1) % 4, (came + 2) % 4, (came + 3) % 4, came);
            }
            return List.of(1, 3, 0, 2);
        }
    }

    static final class Link {
        final int a, portA, b, portB;
        boolean cut;

        Link(int a, int portA, int b, int portB) {
            this.a = a;
            this.portA = portA;
            this.b = b;
            this.portB = portB;
        }

        int other(int node, int port) {
            return a == node && portA == port ? b : b == node && portB == port ? a : NONE;
        }
    }

    static final class Net {
        int w, h, way, life, turn;
        List<Link> links = new ArrayList<>();
        List<Letter> letters = new ArrayList<>();
        List<Deque<Integer>> boxes = new ArrayList<>();
        List<Integer> golden = new ArrayList<>();
        List<Integer> log = new ArrayList<>();
        Map<Integer, Integer> lastCut = new HashMap<>();
        int[][] known;

        Net copy() {
            Net c = new Net();
            c.w = w;
            c.h = h;
            c.way = way;
            c.life = life;
            c.turn = turn;
            for (Link l : links) {
                Link n = new Link(l.a, l.portA, l.b, l.portB);
                n.cut = l.cut;
                c.links.add(n);
            }
            letters.forEach(l -> c.letters.add(l.copy()));
            boxes.forEach(b -> c.boxes.add(new ArrayDeque<>(b)));
            c.golden.addAll(golden);
            c.log.addAll(log);
            c.lastCut.putAll(lastCut);
            return c;
        }

        int nodes() {
            return w * h;
        }

        void lay() {
            for (int node = 0; node < nodes(); node++) {
                boxes.add(new ArrayDeque<>());
                int x = node % w, y = node / w;
                // Each link once: eastwards and southwards.
                if (x + 1 < w || way > 0) {
                    links.add(new Link(node, 1, y * w + (x + 1) % w, 3));
                }
                if (y + 1 < h || way > 0) {
                    links.add(new Link(node, 2, (y + 1) % h * w + x, 0));
                }
            }
        }

        Link laid(int node, int port) {
            for (Link l : links) {
                if (l.other(node, port) != NONE) {
                    return l;
                }
            }
            return null;
        }

        Link link(int node, int port) {
            Link l = laid(node, port);
            return l == null || l.cut ? null : l;
        }

        List<Integer> ports(int node) {
            List<Integer> all = new ArrayList<>();
            for (int p = 0; p < 4; p++) {
                if (link(node, p) != null) {
                    all.add(p);
                }
            }
            return all;
        }

        void cut(Link l) {
            l.cut = true;
            lastCut.put(l.a, l.portA);
            lastCut.put(l.b, l.portB);
            known = null;
        }

        int linkCount() {
            return (int) links.stream().filter(l -> !l.cut).count();
        }

        int far(int a, int b) {
            if (known == null) {
                known = allWays();
            }
            return known[a][b] > 900 ? NONE : known[a][b];
        }

        int[][] allWays() {
            int n = nodes();
            int[][] d = new int[n][n];
            for (int[] row : d) {
                Arrays.fill(row, 1000);
            }
            for (int i = 0; i < n; i++) {
                d[i][i] = 0;
            }
            for (Link l : links) {
                if (!l.cut) {
                    d[l.a][l.b] = 1;
                    d[l.b][l.a] = 1;
                }
            }
            for (int k = 0; k < n; k++) {
                for (int i = 0; i < n; i++) {
                    for (int j = 0; j < n; j++) {
                        d[i][j] = Math.min(d[i][j], d[i][k] + d[k][j]);
                    }
                }
            }
            return d;
        }

        List<Integer> near(Letter l) {
            List<Integer> found = new ArrayList<>();
            if (l.node == null || far(l.node, l.to) == NONE) {
                return found;
            }
            for (int p : l.taste()) {
                Link k = link(l.node, p);
                if (k != null && far(k.other(l.node, p), l.to) < far(l.node, l.to)) {
                    found.add(p);
                }
            }
            return found;
        }

        Integer goldenOne() {
            for (int g : golden) {
                if (letters.get(g).is("flies")) {
                    return g;
                }
            }
            return null;
        }

        List<Letter> byRank(Integer first) {
            List<Letter> all = new ArrayList<>();
            for (Letter l : letters) {
                if (l.is("flies")) {
                    all.add(l);
                }
            }
            all.sort(Comparator.comparing((Letter l) -> first != null && l.number == first ? 0 : 1)
                    .thenComparing(Comparator.comparing(Letter::weight).reversed())
                    .thenComparing(l -> l.number));
            return all;
        }

        List<Letter> flyingAt(int node, Integer first) {
            List<Letter> all = byRank(first);
            all.removeIf(l -> l.node != node);
            return all;
        }

        void finish(Letter l, String how) {
            l.state = how;
            l.node = null;
            l.came = null;
            l.ended = turn;
            golden.remove(Integer.valueOf(l.number));
        }

        void lose(Letter l, int[]... causes) {
            l.why.add(new int[] {1, turn});
            l.why.addAll(Arrays.asList(causes));
            finish(l, "lost");
        }

        Map<Integer, Integer> stepsOneToFive() {
            Integer first = goldenOne();
            for (int node = 0; node < nodes(); node++) {
                for (Letter l : flyingAt(node, first)) {
                    if (l.to == node) {
                        log.add(l.number);
                        finish(l, "delivered");
                        break;
                    }
                }
            }
            for (Letter l : letters) {
                if (l.is("flies") && l.age >= life) {
                    lose(l, new int[] {2, l.age});
                }
            }
            for (int node = 0; node < nodes(); node++) {
                List<Letter> there = flyingAt(node, first);
                for (int i = ports(node).size(); i < there.size(); i++) {
                    lose(there.get(i), new int[] {3, node}, new int[] {4, lastCut.get(node)});
                }
            }
            for (int node = 0; node < nodes(); node++) {
                if (flyingAt(node, first).size() < ports(node).size() && !boxes.get(node).isEmpty()) {
                    Letter l = letters.get(boxes.get(node).removeFirst());
                    l.state = "flies";
                    l.age = 0;
                }
            }
            Map<Integer, Integer> going = new TreeMap<>();
            for (int node = 0; node < nodes(); node++) {
                List<Letter> there = flyingAt(node, first);
                if (way == 2 && ports(node).size() == 4) {
                    going.putAll(swaps(there));
                } else {
                    going.putAll(byTurns(there, ports(node)));
                }
            }
            return going;
        }

        Map<Integer, Integer> byTurns(List<Letter> there, List<Integer> left) {
            Map<Integer, Integer> going = new TreeMap<>();
            for (Letter l : there) {
                List<Integer> wanted = near(l);
                wanted.retainAll(left);
                Integer port = wanted.isEmpty() ? Collections.min(left) : wanted.get(0);
                left.remove(port);
                going.put(l.number, port);
            }
            return going;
        }

        int wish(Letter l) {
            List<Integer> n = near(l);
            return n.isEmpty() ? l.number % 4 : n.get(0);
        }

        Map<Integer, Integer> swaps(List<Letter> there) {
            Letter[] seats = new Letter[4];
            for (Letter l : there) {
                if (l.came != null) {
                    seats[l.came] = l;
                }
            }
            for (Letter l : there) {
                if (l.came == null) {
                    seats[Arrays.asList(seats).indexOf(null)] = l;
                }
            }
            List<Letter> upper = new ArrayList<>(), lower = new ArrayList<>();
            for (int block = 0; block < 2; block++) {
                // In the order of rank, as "there" is.
                List<Letter> pair = new ArrayList<>(there);
                pair.retainAll(Arrays.asList(seats[2 * block], seats[2 * block + 1]));
                if (pair.isEmpty()) {
                    continue;
                }
                boolean up = wish(pair.get(0)) < 2;
                (up ? upper : lower).add(pair.get(0));
                if (pair.size() > 1) {
                    (up ? lower : upper).add(pair.get(1));
                }
            }
            Map<Integer, Integer> going = new TreeMap<>();
            leave(there, upper, 0, 1, going);
            leave(there, lower, 2, 3, going);
            return going;
        }

        void leave(List<Letter> there, List<Letter> come, int p, int q, Map<Integer, Integer> going) {
            List<Letter> inRank = new ArrayList<>(there);
            inRank.retainAll(come);
            if (inRank.isEmpty()) {
                return;
            }
            int wish = wish(inRank.get(0));
            int port = wish == q ? q : p;
            going.put(inRank.get(0).number, port);
            if (inRank.size() > 1) {
                going.put(inRank.get(1).number, port == p ? q : p);
            }
        }

        void turn() {
            Map<Integer, Integer> going = stepsOneToFive();
            for (Map.Entry<Integer, Integer> e : going.entrySet()) {
                Letter l = letters.get(e.getKey());
                int port = e.getValue();
                int to = link(l.node, port).other(l.node, port);
                boolean nearer = far(l.node, l.to) != NONE && far(to, l.to) < far(l.node, l.to);
                l.asides += nearer ? 0 : 1;
                l.age++;
                l.node = to;
                l.came = (port + 2) % 4;
            }
            turn++;
        }

        boolean over() {
            return letters.stream().noneMatch(Letter::lives);
        }

        int letGo() {
            int turns = 0;
            while (!over() && turns < 300) {
                turn();
                turns++;
            }
            return turns;
        }

        int write(int kind, int from, int to) {
            Letter l = new Letter(letters.size(), kind, from, to);
            letters.add(l);
            boxes.get(from).addLast(l.number);
            return l.number;
        }

        int count(String state) {
            return (int) letters.stream().filter(l -> l.is(state)).count();
        }

        int sum(ToIntFunction<Letter> of) {
            return letters.stream().mapToInt(of).sum();
        }
    }

    /** What is not told as a number but as a fault of the text. */
    @SuppressWarnings("serial")
    private static final class Fault extends RuntimeException {
        final int place, number;

        Fault(int place, int number) {
            this.place = place;
            this.number = number;
        }
    }

    private final StringBuilder tape = new StringBuilder();
    private int fault;
    private Net net;
    private final Deque<Net> acts = new ArrayDeque<>();
    private final Net[] images = new Net[2];

    private static int orNone(Integer value) {
        return value == null ? NONE : value;
    }

    private static <T> int nth(List<T> list, int i, ToIntFunction<T> of) {
        return i < list.size() ? of.applyAsInt(list.get(i)) : NONE;
    }

    private boolean isNode(int node) {
        return net != null && node >= 0 && node < net.nodes();
    }

    private boolean isLetter(int letter) {
        return net != null && letter >= 0 && letter < net.letters.size();
    }

    private static boolean in(int value, int least, int most) {
        return least <= value && value <= most;
    }

    private void act() {
        acts.addLast(net.copy());
        if (acts.size() > 8) {
            acts.removeFirst();
        }
    }

    int feed(int letter) {
        if (!in(letter, 0, 255)) {
            return BAD;
        }
        if (tape.length() == 140) {
            return FULL;
        }
        return tape.append((char) letter).length();
    }

    int net() {
        String text = tape.toString();
        tape.setLength(0);
        try {
            net = new Text(text).read();
        } catch (Fault f) {
            fault = f.number;
            return -1000100 - f.place;
        }
        acts.clear();
        return net.letters.size();
    }

    /** All tokens first; a run of figures that is too long, and all else, is a token "?". */
    private static final class Text {
        final List<String> tokens = new ArrayList<>();
        final List<Integer> places = new ArrayList<>();
        int at;

        Text(String text) {
            int i = 0;
            while (i < text.length()) {
                int end = i;
                while (end < text.length() && text.charAt(end) >= '0' && text.charAt(end) <= '9') {
                    end++;
                }
                places.add(i);
                if (end > i) {
                    tokens.add(end - i > 2 ? "?" : text.substring(i, end));
                    i = end;
                } else {
                    char c = text.charAt(i++);
                    tokens.add(in(c, 'a', 'z') || c == ',' || c == ';' ? String.valueOf(c) : "?");
                }
            }
            places.add(text.length());
            tokens.add("end");
        }

        Fault fault(int number, int token) {
            return new Fault(places.get(token), number);
        }

        void sign(String s) {
            if (!tokens.get(at).equals(s)) {
                throw fault(1, at);
            }
            at++;
        }

        int number(int least, int most) {
            if (!tokens.get(at).matches("[0-9]+")) {
                throw fault(1, at);
            }
            int value = Integer.parseInt(tokens.get(at));
            if (!in(value, least, most)) {
                throw fault(2, at);
            }
            at++;
            return value;
        }

        Net read() {
            Net n = new Net();
            sign("g");
            n.w = number(2, 4);
            sign(",");
            n.h = number(2, 4);
            sign(",");
            n.way = number(0, 2);
            sign(",");
            n.life = number(10, 99);
            sign(";");
            n.lay();
            while (tokens.get(at).equals("c")) {
                at++;
                int node = number(0, n.nodes() - 1);
                sign(",");
                Link l = n.link(node, number(0, 3));
                if (l == null) {
                    throw fault(2, at - 1);
                }
                n.cut(l);
                sign(";");
            }
            while (!tokens.get(at).equals("end")) {
                int kind = tokens.get(at).length() == 1 ? "sxtoh".indexOf(tokens.get(at)) + 1 : 0;
                if (kind == 0) {
                    throw fault(1, at);
                }
                if (n.letters.size() == 16) {
                    throw fault(3, at);
                }
                at++;
                int from = number(0, n.nodes() - 1);
                sign(",");
                int to = number(0, n.nodes() - 1);
                if (to == from) {
                    throw fault(2, at - 1);
                }
                sign(";");
                n.write(kind, from, to);
            }
            return n;
        }
    }

    int fault() {
        return fault;
    }

    int undo() {
        if (acts.isEmpty()) {
            return STATE;
        }
        net = acts.removeLast();
        return acts.size();
    }

    int write(int kind, int from, int to) {
        if (net == null) {
            return STATE;
        }
        if (!in(kind, 1, 5) || !isNode(from) || !isNode(to) || from == to) {
            return BAD;
        }
        if (net.letters.size() == 40) {
            return FULL;
        }
        act();
        return net.write(kind, from, to);
    }

    int bless(int letter) {
        if (!isLetter(letter)) {
            return BAD;
        }
        if (net.golden.contains(letter) || !net.letters.get(letter).lives()) {
            return STATE;
        }
        if (net.golden.size() == 4) {
            return FULL;
        }
        act();
        net.golden.add(letter);
        return net.golden.size();
    }

    int unbless(int letter) {
        if (!isLetter(letter)) {
            return BAD;
        }
        if (!net.golden.contains(letter)) {
            return STATE;
        }
        act();
        net.golden.remove(Integer.valueOf(letter));
        return net.golden.size();
    }

    int cut(int node, int port) {
        if (!isNode(node) || !in(port, 0, 3) || net.laid(node, port) == null) {
            return BAD;
        }
        if (net.link(node, port) == null) {
            return STATE;
        }
        act();
        net.cut(net.link(node, port));
        return net.linkCount();
    }

    int mend(int node, int port) {
        if (!isNode(node) || !in(port, 0, 3) || net.laid(node, port) == null) {
            return BAD;
        }
        if (net.link(node, port) != null) {
            return STATE;
        }
        act();
        net.laid(node, port).cut = false;
        net.known = null;
        return net.linkCount();
    }

    int turn(int n) {
        if (net == null) {
            return STATE;
        }
        if (!in(n, 1, 50)) {
            return BAD;
        }
        act();
        int before = net.count("delivered");
        for (int i = 0; i < n; i++) {
            net.turn();
        }
        return net.count("delivered") - before;
    }

    int letter(int letter, int what) {
        if (!isLetter(letter) || !in(what, 0, 10)) {
            return BAD;
        }
        Letter l = net.letters.get(letter);
        return List.of(l.kind, l.from, l.to, STATES.indexOf(l.state), orNone(l.node), l.age, l.asides,
                l.weight(), orNone(l.came), orNone(l.ended),
                net.golden.contains(letter) ? 1 : 0).get(what);
    }

    int node(int node, int what) {
        if (!isNode(node) || !in(what, 0, 4)) {
            return BAD;
        }
        int bits = 0;
        for (int p : net.ports(node)) {
            bits |= 1 << p;
        }
        int delivered = 0;
        for (Letter l : net.letters) {
            delivered += l.is("delivered") && l.to == node ? 1 : 0;
        }
        return List.of(net.flyingAt(node, null).size(), bits, net.boxes.get(node).size(), delivered,
                orNone(net.lastCut.get(node))).get(what);
    }

    int at(int node, int i) {
        if (!isNode(node) || i < 0) {
            return BAD;
        }
        return nth(net.flyingAt(node, net.goldenOne()), i, l -> l.number);
    }

    int box(int node, int i) {
        if (!isNode(node) || i < 0) {
            return BAD;
        }
        return nth(new ArrayList<>(net.boxes.get(node)), i, n -> n);
    }

    int rank(int i) {
        if (net == null) {
            return STATE;
        }
        return i < 0 ? BAD : nth(net.byRank(net.goldenOne()), i, l -> l.number);
    }

    int golden(int i) {
        if (net == null) {
            return STATE;
        }
        return i < 0 ? BAD : nth(net.golden, i, n -> n);
    }

    int log(int i) {
        if (net == null) {
            return STATE;
        }
        return i < 0 ? BAD : nth(net.log, i, n -> n);
    }

    int sums(int what) {
        if (net == null) {
            return STATE;
        }
        if (!in(what, 0, 5)) {
            return BAD;
        }
        int oldest = NONE;
        for (Letter l : net.letters) {
            oldest = l.is("delivered") ? Math.max(oldest, l.age) : oldest;
        }
        return List.of(net.turn, net.count("delivered"), net.count("lost"), net.sum(l -> l.asides),
                net.sum(l -> l.age), oldest).get(what);
    }

    int far(int a, int b) {
        return isNode(a) && isNode(b) ? net.far(a, b) : BAD;
    }

    int near(int letter, int i) {
        if (!isLetter(letter) || !in(i, 0, 3)) {
            return BAD;
        }
        return nth(net.near(net.letters.get(letter)), i, p -> p);
    }

    int why(int letter, int i, int what) {
        if (!isLetter(letter) || i < 0 || !in(what, 0, 1)) {
            return BAD;
        }
        return nth(net.letters.get(letter).why, i, c -> c[what]);
    }

    int next(int letter) {
        if (!isLetter(letter)) {
            return BAD;
        }
        return orNone(net.copy().stepsOneToFive().get(letter));
    }

    int ends(int what) {
        if (net == null) {
            return STATE;
        }
        if (!in(what, 0, 3)) {
            return BAD;
        }
        Net c = net.copy();
        int turns = c.letGo();
        if (!c.over()) {
            return NONE;
        }
        int last = NONE, asides = 0;
        for (Letter l : c.letters) {
            asides = Math.max(asides, l.asides);
            boolean wasLiving = net.letters.get(l.number).lives();
            if (wasLiving && (last == NONE || c.letters.get(last).ended <= l.ended)) {
                last = l.number;
            }
        }
        return List.of(turns, last, c.count("lost") - net.count("lost"), asides).get(what);
    }

    int arrives(int letter) {
        if (!isLetter(letter)) {
            return BAD;
        }
        Net c = net.copy();
        c.letGo();
        Letter l = c.letters.get(letter);
        return l.is("delivered") ? l.ended : NONE;
    }

    int worst(int from, int kind, int what) {
        if (!isNode(from) || !in(kind, 1, 5) || !in(what, 0, 1)) {
            return BAD;
        }
        if (net.letters.size() == 40) {
            return FULL;
        }
        int most = -1, target = -1;
        for (int to = 0; to < net.nodes(); to++) {
            if (to == from) {
                continue;
            }
            Net c = net.copy();
            Letter l = c.letters.get(c.write(kind, from, to));
            c.letGo();
            int turns = l.lives() ? 300 : l.ended - net.turn;
            if (turns > most) {
                most = turns;
                target = to;
            }
        }
        return what == 0 ? most : target;
    }

    int help() {
        if (net == null) {
            return STATE;
        }
        int best = NONE, fewest = Integer.MAX_VALUE;
        for (Letter l : net.letters) {
            if (!l.lives()) {
                continue;
            }
            Net c = net.copy();
            c.golden.remove(Integer.valueOf(l.number));
            c.golden.add(0, l.number);
            int turns = c.letGo();
            if (c.over() && turns < fewest) {
                fewest = turns;
                best = l.number;
            }
        }
        return best;
    }

    int bridges(int what) {
        if (net == null) {
            return STATE;
        }
        if (!in(what, 0, 1)) {
            return BAD;
        }
        List<Integer> found = new ArrayList<>();
        for (Link l : net.links) {
            if (l.cut) {
                continue;
            }
            l.cut = true;
            boolean parts = net.allWays()[l.a][l.b] > 900;
            l.cut = false;
            if (parts) {
                found.add(Math.min(4 * l.a + l.portA, 4 * l.b + l.portB));
            }
        }
        return what == 0 ? found.size() : found.isEmpty() ? NONE : Collections.min(found);
    }

    long odds(int letter, int node, int p, int what) {
        if (!isLetter(letter) || !isNode(node) || !in(p, 0, 10) || !in(what, 0, 1)) {
            return BAD;
        }
        List<Integer> ports = net.ports(node);
        long above = 0, below = 1;
        for (int i = 0; i < ports.size(); i++) {
            below *= 10;
        }
        for (int set = 0; set < 1 << ports.size(); set++) {
            Net c = net.copy();
            long cases = 1;
            for (int i = 0; i < ports.size(); i++) {
                boolean fails = (set & 1 << i) != 0;
                cases *= fails ? p : 10 - p;
                if (fails) {
                    c.cut(c.link(node, ports.get(i)));
                }
            }
            c.letGo();
            above += c.letters.get(letter).is("delivered") ? cases : 0;
        }
        long divisor = below;
        while (above % divisor != 0 || below % divisor != 0) {
            divisor--;
        }
        return (what == 0 ? above : below) / divisor;
    }

    int drawn(int n, int seed, int what) {
        if (net == null) {
            return STATE;
        }
        if (!in(n, 0, 10) || !in(seed, 1, 999999) || !in(what, 0, 2)) {
            return BAD;
        }
        Net c = net.copy();
        long x = seed;
        for (int i = 0; i < n; i++) {
            x = x * 16807L % 2147483647L;
            int from = (int) (x % c.nodes());
            int to = (int) (x / 32 % c.nodes());
            if (from == to) {
                to = to == c.nodes() - 1 ? 0 : to + 1;
            }
            if (c.letters.size() < 40) {
                c.write(1 + (int) (x / 1024 % 5), from, to);
            }
            c.turn();
        }
        int turns = c.letGo();
        return List.of(c.over() ? turns : NONE, c.count("lost"), c.sum(l -> l.asides)).get(what);
    }

    int image(int k) {
        if (!in(k, 0, 1)) {
            return BAD;
        }
        if (net == null) {
            return STATE;
        }
        images[k] = net.copy();
        return 1;
    }

    int restore(int k) {
        if (!in(k, 0, 1)) {
            return BAD;
        }
        if (images[k] == null) {
            return STATE;
        }
        net = images[k].copy();
        acts.clear();
        return 1;
    }

    int count(int what) {
        if (!in(what, 0, 6)) {
            return BAD;
        }
        boolean none = net == null;
        return List.of(none ? 0 : net.nodes(), none ? 0 : net.letters.size(),
                none ? 0 : net.count("waits"), none ? 0 : net.count("flies"),
                none ? 0 : net.linkCount(), acts.size(), tape.length()).get(what);
    }
}
