import java.lang.reflect.Method;
import java.util.Arrays;
import java.util.Random;

/**
 * Runs of random calls, answered by HotLetters and by PlainModel alike. The seeds are fixed, so
 * each run can be had again. An argument RUNS asks for more runs than the script .ci/run does.
 */
public final class ModelTest {
    private static final int CALLS = 512;
    private static final String[] OWN_TEXTS = {
        "g3,3,0,20;s0,8;o0,8;x6,2;h6,2;t4,0;",
        "g4,4,2,30;s0,5;s1,5;s4,5;s9,5;x6,5;o2,8;t10,0;h15,3;",
        "g2,2,0,10;c0,1;s0,1;s0,3;s2,1;",
        "g2,2,1,10;c0,0;c2,0;t0,3;t1,2;",
        "g4,4,1,12;s0,15;x0,15;o0,15;t0,15;h0,15;s5,10;x5,10;t5,10;o5,10;h5,10;s15,0;x15,0;t15,0;",
    };

    private final Random random;
    private final HotLetters real = new HotLetters();
    private final PlainModel plain = new PlainModel();
    private final StringBuilder story = new StringBuilder();
    private int calls;

    private ModelTest(long seed) {
        random = new Random(seed);
    }

    public static void main(String[] args) {
        int runs = args.length > 0 ? Integer.parseInt(args[0]) : 250;
        int wrong = 0;
        for (int seed = 0; seed < runs && wrong < 3; seed++) {
            wrong += new ModelTest(seed).run() ? 0 : 1;
        }
        System.out.println(wrong == 0 ? "HotLetters and the model agree" : "they differ");
        System.exit(wrong == 0 ? 0 : 1);
    }

    private boolean run() {
        boolean good = true;
        // Now and then a step asks for nothing, so the steps are counted, too.
        for (int step = 0; step < 4 * CALLS && calls < CALLS && good; step++) {
            if (step == 0 || random.nextInt(80) == 0) {
                good = tell(text());
            }
            good = good && randomCall();
        }
        return good;
    }

    private boolean tell(String text) {
        boolean good = true;
        for (int i = 0; i < text.length(); i++) {
            good = good && same("feed", text.charAt(i));
        }
        return good && same("net") && same("fault");
    }

    private String text() {
        StringBuilder text = new StringBuilder();
        if (random.nextInt(3) == 0) {
            text.append(OWN_TEXTS[random.nextInt(OWN_TEXTS.length)]);
        } else {
            int w = 2 + random.nextInt(3), h = 2 + random.nextInt(3), nodes = w * h;
            text.append("g" + w + "," + h + "," + random.nextInt(3) + "," + (10 + random.nextInt(30)) + ";");
            for (int i = random.nextInt(3); i > 0; i--) {
                text.append("c" + random.nextInt(nodes) + "," + random.nextInt(4) + ";");
            }
            for (int i = random.nextInt(18); i > 0; i--) {
                int from = random.nextInt(nodes), to = (from + 1 + random.nextInt(nodes - 1)) % nodes;
                text.append("" + "sxtoh".charAt(random.nextInt(5)) + from + "," + to + ";");
            }
        }
        if (random.nextInt(4) == 0) {
            String signs = "g,;c0s123xz9 A456789";
            text.insert(random.nextInt(text.length() + 1), signs.charAt(random.nextInt(signs.length())));
        }
        if (random.nextInt(8) == 0) {
            text.setLength(random.nextInt(text.length() + 1));
        }
        if (text.length() > 140) {
            text.setLength(140);
        }
        return text.toString();
    }

    private int letter() {
        return random.nextInt(Math.max(1, plain.count(1)) + 1) - random.nextInt(8) / 7;
    }

    private int node() {
        int nodes = Math.max(4, plain.count(0));
        return random.nextInt(20) == 0 ? random.nextInt(nodes + 4) - 2 : random.nextInt(nodes);
    }

    /** Mostly from 0 to below most; now and then one beside that. */
    private int upTo(int most) {
        return random.nextInt(15) == 0 ? random.nextInt(most + 3) - 1 : random.nextInt(most);
    }

    private boolean randomCall() {
        switch (random.nextInt(45)) {
            case 0: return same("undo");
            case 1: case 2: case 3: return same("write", 1 + upTo(5), node(), node());
            case 4: case 5: return same("bless", letter());
            case 6: return same("unbless", letter());
            case 7: case 8: return same("cut", node(), upTo(4));
            case 9: return same("mend", node(), upTo(4));
            case 10: case 11: case 12: case 13: return same("turn", upTo(4));
            case 14: return same("turn", upTo(54));
            case 15: return wholeLetter(letter());
            case 16: return wholeNode(node());
            case 17: return same("at", node(), upTo(4));
            case 18: return same("box", node(), upTo(4));
            case 19: return same("rank", upTo(20));
            case 20: return same("golden", upTo(5));
            case 21: return same("log", upTo(20));
            case 22: return same("sums", upTo(6));
            case 23: return same("far", node(), node());
            case 24: return same("near", letter(), upTo(4));
            case 25: return same("why", letter(), upTo(4), upTo(2));
            case 26: case 27: case 28: return same("next", letter());
            case 29: case 30: return same("ends", upTo(4));
            case 31: return same("arrives", letter());
            case 32: return random.nextInt(4) > 0 || same("worst", node(), 1 + upTo(5), upTo(2));
            case 33: return random.nextInt(6) > 0 || same("help");
            case 34: return same("bridges", upTo(2));
            case 35: return random.nextInt(3) > 0 || same("odds", letter(), node(), upTo(11), upTo(2));
            case 36: return same("drawn", upTo(11), 1 + random.nextInt(999999), upTo(3));
            case 37: return same("image", upTo(2));
            case 38: return random.nextInt(4) > 0 || same("restore", upTo(2));
            case 39: return same("count", upTo(7));
            case 40: return same("feed", random.nextInt(300) - 20);
            case 41: return random.nextInt(6) > 0 || same("net") && same("fault");
            default: return whole();
        }
    }

    private boolean wholeLetter(int letter) {
        boolean good = true;
        for (int what = 0; what <= 11; what++) {
            good = good && same("letter", letter, what);
        }
        for (int i = 0; i < 4; i++) {
            good = good && same("near", letter, i);
            good = good && same("why", letter, i, 0) && same("why", letter, i, 1);
        }
        return good;
    }

    private boolean wholeNode(int node) {
        boolean good = true;
        for (int what = 0; what <= 5; what++) {
            good = good && same("node", node, what);
        }
        for (int i = 0; i < 5; i++) {
            good = good && same("at", node, i) && same("box", node, i);
        }
        return good;
    }

    /** All that can be seen of the state, or as much of it as there are calls left. */
    private boolean whole() {
        if (random.nextInt(6) > 0) {
            return true;
        }
        boolean good = true;
        for (int i = 0; i < plain.count(1); i++) {
            good = good && wholeLetter(i) && same("next", i);
        }
        for (int i = 0; i < plain.count(0); i++) {
            good = good && wholeNode(i);
        }
        for (int i = 0; i < 7; i++) {
            good = good && same("sums", i) && same("count", i);
        }
        return good;
    }

    /** What is asked behind the last call that the document speaks of is not looked at. */
    private boolean same(String name, int... a) {
        if (calls >= CALLS) {
            return true;
        }
        calls++;
        long got = answer(real, name, a);
        long due = answer(plain, name, a);
        StringBuilder call = new StringBuilder(name).append('(');
        for (int i = 0; i < a.length; i++) {
            call.append(i > 0 ? ", " : "").append(a[i]);
        }
        story.append(call).append(") = ").append(got).append('\n');
        if (got != due) {
            System.out.println(story + "  but the model answers " + due);
        }
        return got == due;
    }

    private static long answer(Object asked, String name, int[] a) {
        for (Method method : asked.getClass().getDeclaredMethods()) {
            if (method.getName().equals(name) && method.getParameterCount() == a.length) {
                Object[] arguments = Arrays.stream(a).boxed().toArray();
                try {
                    return ((Number) method.invoke(asked, arguments)).longValue();
                } catch (ReflectiveOperationException e) {
                    throw new IllegalStateException(name, e);
                }
            }
        }
        throw new IllegalArgumentException(name);
    }
}
