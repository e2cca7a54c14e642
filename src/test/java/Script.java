import java.lang.reflect.Method;
import java.util.ArrayList;
import java.util.Arrays;
import java.util.HashMap;
import java.util.List;
import java.util.Map;
import java.util.function.Supplier;
import java.util.regex.Matcher;
import java.util.regex.Pattern;

/**
 * A run of calls written in lines, with the answers that are due:
 *
 * <pre>
 *   new                     a new object
 *   reads TEXT = N          a new object, for whose tape TEXT net() answers N, without a fault
 *   fails TEXT = PLACE N    a new object, for whose tape TEXT net() has the fault N at PLACE
 *   tape TEXT               TEXT is fed
 *   bytes N N ..            bytes are fed
 *   CALL NUMBERS            a call that must not be refused
 *   CALL NUMBERS = ANSWERS  one number may be a range, as 0..3: a call and an answer for each
 *   N times CALL ..         the call, and an answer for each, N times
 *   mark, unchanged         no call between these two changed anything that can be seen
 * </pre>
 *
 * One answer stands for all, if there is but one; as an answer, 0..3 is 0 1 2 3. In a TEXT,
 * {s0,1;*16} is s0,1; sixteen times. The lines are tried on HotLetters and on PlainModel alike, and
 * no object is asked for more than the 512 calls that the document allows.
 */
final class Script {
    private static final int MOST_CALLS = 512;
    private static final Map<String, Long> NAMES = Map.of("NONE", -1000000L, "BAD", -1000001L,
            "STATE", -1000002L, "FULL", -1000003L,
            "MIN", (long) Integer.MIN_VALUE, "MAX", (long) Integer.MAX_VALUE);

    private record Call(String name, int... numbers) {
        String told() {
            StringBuilder text = new StringBuilder(name).append('(');
            for (int i = 0; i < numbers.length; i++) {
                text.append(i > 0 ? ", " : "").append(numbers[i]);
            }
            return text.append(')').toString();
        }
    }

    private final String name;
    private final Supplier<Object> maker;
    private final Map<String, Method> face = new HashMap<>();
    private List<Call> history = new ArrayList<>();
    private List<Call> marked;
    private Object asked;

    private Script(String name, Supplier<Object> maker) {
        this.name = name;
        this.maker = maker;
        for (Method method : maker.get().getClass().getDeclaredMethods()) {
            face.put(method.getName() + "/" + method.getParameterCount(), method);
        }
    }

    static void play(String name, String lines) {
        new Script(name, HotLetters::new).playAll(lines);
        new Script("the model: " + name, PlainModel::new).playAll(lines);
    }

    private void playAll(String lines) {
        for (String line : lines.split("\n")) {
            if (!line.isBlank() && !line.trim().startsWith("#")) {
                playLine(line.trim());
            }
        }
    }

    private void playLine(String line) {
        String[] sides = line.split(" = ");
        String[] words = sides[0].split(" ");
        String[] answers = sides.length > 1 ? sides[1].split(" ") : null;
        switch (words[0]) {
            case "new" -> begin();
            case "reads" -> reads(words[1], answers);
            case "fails" -> fails(words[1], answers);
            case "tape" -> expanded(words[1]).chars().forEach(this::feed);
            case "bytes" -> numbersOf(words, 1).forEach(value -> feed(value.intValue()));
            case "mark" -> marked = new ArrayList<>(history);
            case "unchanged" -> unchanged();
            default -> calls(line, words, answers);
        }
    }

    private void begin() {
        history = new ArrayList<>();
        marked = null;
        asked = maker.get();
    }

    private void feed(int letter) {
        if (ask(new Call("feed", letter)) <= 0) {
            Check.holds(name + ": feed(" + letter + ") is not refused", false);
        }
    }

    private void reads(String text, String[] answers) {
        begin();
        expanded(text).chars().forEach(this::feed);
        due("net() of " + text, ask(new Call("net")), valueOf(answers[0]));
        due("fault() of " + text, ask(new Call("fault")), 0);
    }

    private void fails(String text, String[] answers) {
        begin();
        expanded(text).chars().forEach(this::feed);
        due("net() of " + text, ask(new Call("net")), -1000100 - valueOf(answers[0]));
        due("fault() of " + text, ask(new Call("fault")), valueOf(answers[1]));
    }

    private static String expanded(String text) {
        Matcher matcher = Pattern.compile("\\{([^*}]*)\\*(\\d+)\\}").matcher(text);
        return matcher.replaceAll(found -> found.group(1).repeat(Integer.parseInt(found.group(2))));
    }

    private void calls(String line, String[] words, String[] answers) {
        boolean repeated = words.length > 1 && words[1].equals("times");
        List<Call> all = new ArrayList<>();
        for (int i = repeated ? Integer.parseInt(words[0]) : 1; i > 0; i--) {
            all.addAll(callsOf(words, repeated ? 2 : 0));
        }
        List<Long> due = answers == null ? List.of() : numbersOf(answers, 0);
        if (due.size() > 1 && due.size() != all.size()) {
            throw new IllegalStateException(name + ": not one answer for each call of " + line);
        }
        for (int i = 0; i < all.size(); i++) {
            long got = ask(all.get(i));
            if (due.isEmpty()) {
                Check.holds(name + ": not refused: " + all.get(i).told(), got >= NAMES.get("NONE"));
            } else {
                due(all.get(i).told(), got, due.get(due.size() == 1 ? 0 : i));
            }
        }
    }

    private static List<Call> callsOf(String[] words, int start) {
        List<int[]> rows = List.of(new int[0]);
        for (int i = start + 1; i < words.length; i++) {
            List<int[]> longer = new ArrayList<>();
            for (int[] row : rows) {
                for (long value : range(words[i])) {
                    int[] next = Arrays.copyOf(row, row.length + 1);
                    next[row.length] = (int) value;
                    longer.add(next);
                }
            }
            rows = longer;
        }
        return rows.stream().map(row -> new Call(words[start], row)).toList();
    }

    private static List<Long> numbersOf(String[] words, int start) {
        List<Long> all = new ArrayList<>();
        for (int i = start; i < words.length; i++) {
            all.addAll(range(words[i]));
        }
        return all;
    }

    private static List<Long> range(String word) {
        int dots = word.indexOf("..");
        if (dots < 0) {
            return List.of(valueOf(word));
        }
        List<Long> all = new ArrayList<>();
        for (long i = valueOf(word.substring(0, dots)); i <= valueOf(word.substring(dots + 2)); i++) {
            all.add(i);
        }
        return all;
    }

    private static long valueOf(String word) {
        return NAMES.containsKey(word) ? NAMES.get(word) : Long.parseLong(word);
    }

    private void due(String call, long got, long want) {
        Check.due(name + ": " + call, got, want);
    }

    private long ask(Call call) {
        history.add(call);
        if (history.size() > MOST_CALLS) {
            throw new IllegalStateException(name + ": more than 512 calls");
        }
        return answer(asked, call);
    }

    private long answer(Object object, Call call) {
        Method method = face.get(call.name() + "/" + call.numbers().length);
        Object[] numbers = Arrays.stream(call.numbers()).boxed().toArray();
        try {
            return ((Number) method.invoke(object, numbers)).longValue();
        } catch (ReflectiveOperationException e) {
            throw new IllegalStateException(name + ": " + call.told(), e);
        }
    }

    private Object replay(List<Call> calls) {
        Object object = maker.get();
        for (Call call : calls) {
            answer(object, call);
        }
        return object;
    }

    /**
     * Two new objects, one with the calls since the mark and one without, must answer alike: what
     * is there, then what undoing, restoring and reading the tape would bring back.
     */
    private void unchanged() {
        if (marked == null) {
            throw new IllegalStateException(name + ": no mark");
        }
        List<Call> state = looks();
        int room = MOST_CALLS - history.size();
        for (int start = 0; start < state.size(); start += room) {
            answerAlike(state.subList(start, Math.min(start + room, state.size())));
        }
        for (int undone = 1; undone <= 9; undone++) {
            answerAlike(behind(undone, new Call("undo")));
        }
        answerAlike(behind(1, new Call("restore", 0)));
        answerAlike(behind(1, new Call("restore", 1)));
        answerAlike(behind(1, new Call("net")));
    }

    private void answerAlike(List<Call> calls) {
        Object with = replay(history);
        Object without = replay(marked);
        for (Call call : calls) {
            due("unchanged, " + call.told(), answer(with, call), answer(without, call));
        }
    }

    private List<Call> behind(int times, Call first) {
        List<Call> all = new ArrayList<>();
        for (int i = 0; i < times; i++) {
            all.add(first);
        }
        all.add(new Call("fault"));
        add(all, "count", 7);
        add(all, "sums", 6);
        add(all, "golden", 5);
        add(all, "rank", 5);
        add(all, "log", 5);
        for (int node = 0; node < 4; node++) {
            add(all, "node", 5, node);
            add(all, "box", 3, node);
        }
        return all;
    }

    private List<Call> looks() {
        Object probe = replay(marked);
        List<Call> all = new ArrayList<>();
        all.add(new Call("fault"));
        add(all, "count", 7);
        add(all, "sums", 6);
        add(all, "golden", 5);
        add(all, "rank", 41);
        add(all, "log", 41);
        add(all, "ends", 4);
        int letters = (int) answer(probe, new Call("count", 1));
        add(all, "next", letters);
        for (int letter = 0; letter < letters; letter++) {
            add(all, "letter", 11, letter);
            add(all, "near", 4, letter);
            add(all, "why", 2, letter, 1);
            add(all, "why", 2, letter, 2);
        }
        for (int node = 0; node < answer(probe, new Call("count", 0)); node++) {
            add(all, "node", 5, node);
            add(all, "at", 5, node);
            add(all, "box", 17, node);
            add(all, "far", 16, node);
        }
        return all;
    }

    /** Calls whose last number goes from 0 to below most; the first numbers stay. */
    private static void add(List<Call> all, String call, int most, int... first) {
        for (int last = 0; last < most; last++) {
            int[] numbers = Arrays.copyOf(first, first.length + 1);
            numbers[first.length] = last;
            all.add(new Call(call, numbers));
        }
    }
}
