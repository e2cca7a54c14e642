import com.sun.management.ThreadMXBean;
import java.io.IOException;
import java.lang.management.ManagementFactory;
import java.lang.reflect.Constructor;
import java.lang.reflect.Field;
import java.lang.reflect.Method;
import java.lang.reflect.Modifier;
import java.nio.file.Files;
import java.nio.file.Path;
import java.util.Arrays;
import java.util.List;
import java.util.Set;
import java.util.TreeSet;
import java.util.regex.Matcher;
import java.util.regex.Pattern;

/** The face of the document, and those rules of LANGUAGE.md that can be looked at from outside. */
public final class RulesTest {
    private static final String FACE = "feed/1 net/0 fault/0 undo/0 write/3 bless/1 unbless/1 cut/2"
            + " mend/2 turn/1 letter/2 node/2 at/2 box/2 rank/1 golden/1 log/1 sums/1 far/2 near/2"
            + " why/3 next/1 ends/1 arrives/1 worst/3 help/0 bridges/1 odds/4 drawn/3 image/1"
            + " restore/1 count/1";
    private static final Path SOURCE = Path.of("src/main/java/HotLetters.java");

    public static void main(String[] args) throws IOException {
        face();
        constants();
        namesAreNotTakenTwice();
        words(bareSource());
        methodsAreShort();
        dearCallsMakeNothing();
        anyArgumentsAreAnswered();
        Check.end();
    }

    private static void face() {
        Set<String> found = new TreeSet<>();
        for (Method method : HotLetters.class.getDeclaredMethods()) {
            if (Modifier.isPrivate(method.getModifiers())) {
                continue;
            }
            found.add(method.getName() + "/" + method.getParameterCount());
            boolean isOdds = method.getName().equals("odds");
            Check.holds("the type of " + method, method.getReturnType() == (isOdds ? long.class : int.class));
            Check.holds("public: " + method, Modifier.isPublic(method.getModifiers()));
        }
        Check.holds("the face " + found, found.equals(new TreeSet<>(List.of(FACE.split(" ")))));
        Constructor<?>[] constructors = HotLetters.class.getDeclaredConstructors();
        Check.due("constructors", constructors.length, 1);
        Check.due("its parameters", constructors[0].getParameterCount(), 0);
        Check.holds("final", Modifier.isFinal(HotLetters.class.getModifiers()));
        for (Class<?> inside : HotLetters.class.getDeclaredClasses()) {
            Check.holds("static: " + inside, Modifier.isStatic(inside.getModifiers()));
        }
        Check.holds("twelve classes at most", HotLetters.class.getDeclaredClasses().length < 12);
    }

    private static void constants() {
        Check.due("NONE", HotLetters.NONE, Check.NONE);
        Check.due("BAD", HotLetters.BAD, Check.BAD);
        Check.due("STATE", HotLetters.STATE, Check.STATE);
        Check.due("FULL", HotLetters.FULL, Check.FULL);
        int open = 0;
        for (Field field : HotLetters.class.getDeclaredFields()) {
            open += Modifier.isPrivate(field.getModifiers()) ? 0 : 1;
        }
        Check.due("fields that are not private", open, 4);
    }

    private static void namesAreNotTakenTwice() {
        for (Class<?> inside : HotLetters.class.getDeclaredClasses()) {
            for (Method method : inside.getDeclaredMethods()) {
                boolean taken = Pattern.compile("\\b" + method.getName() + "/").matcher(FACE).find();
                Check.holds("not a name of the face: " + method, !taken);
                Check.holds("seven parameters at most: " + method, method.getParameterCount() <= 7);
            }
            long fields = Arrays.stream(inside.getDeclaredFields())
                    .filter(field -> !Modifier.isStatic(field.getModifiers())).count();
            Check.holds("twenty fields at most: " + inside, fields <= 20);
        }
    }

    private static String bareSource() throws IOException {
        return Files.readString(SOURCE).replaceAll("(?s)/\\*.*?\\*/", "").replaceAll("//[^\\n]*", "");
    }

    private static void words(String source) {
        for (String word : List.of("throw", "throws", "try", "catch", "finally", "synchronized", "assert",
                "instanceof", "double", "float", "hashCode", "toString", "protected", "native", "var")) {
            Check.holds("without " + word, !Pattern.compile("\\b" + word + "\\b").matcher(source).find());
        }
        Check.holds("without lambdas", !source.contains("->") && !source.contains("::"));
        Matcher imports = Pattern.compile("import ([\\w.]+);").matcher(source);
        while (imports.find()) {
            Check.holds("import " + imports.group(1), imports.group(1).equals("java.util.Arrays"));
        }
        Matcher library = Pattern.compile("\\b(System|Arrays|Integer|Long|Math)\\.(\\w+)").matcher(source);
        List<String> known = List.of("arraycopy", "fill", "bitCount", "max", "min");
        while (library.find()) {
            Check.holds("the library's " + library.group(), known.contains(library.group(2)));
        }
    }

    private static void methodsAreShort() throws IOException {
        int start = 0;
        int line = 0;
        for (String text : Files.readAllLines(SOURCE)) {
            line++;
            Check.holds("line " + line + " is not too long", text.length() <= 110);
            if (text.matches(" {4,8}[a-z].*\\) \\{")) {
                start = line;
            } else if (text.matches(" {4,8}\\}")) {
                Check.holds("the method at line " + start + " is short", line - start < 60);
            }
        }
    }

    /** All calls of a run live in one room, so no call but the constructor makes objects. */
    private static void dearCallsMakeNothing() {
        ThreadMXBean meter = (ThreadMXBean) ManagementFactory.getThreadMXBean();
        long self = Thread.currentThread().getId();
        HotLetters x = Check.told("g4,4,2,99;s0,5;s1,5;s4,5;x6,5;o2,8;t10,0;h15,3;");
        for (int i = x.count(1); i < 36; i++) {
            x.write(1 + i % 5, i % 16, (i + 5) % 16);
        }
        x.turn(1);
        long answers = x.help() + x.worst(3, 2, 0) + x.odds(2, 5, 3, 0) + x.drawn(10, 77, 0);
        meter.getThreadAllocatedBytes(self);
        long before = meter.getThreadAllocatedBytes(self);
        for (int i = 0; i < 20; i++) {
            answers += x.help() + x.worst(i % 16, 2, 0) + x.odds(i, 5, 3, 0) + x.drawn(10, 77, 0);
            answers += x.ends(i % 4) + x.arrives(i) + x.next(i) + x.bridges(0) + x.image(0);
            answers += x.bless(i) + x.cut(i % 16, 1) + x.turn(1) + x.undo() + x.undo() + x.restore(0);
        }
        long made = meter.getThreadAllocatedBytes(self) - before;
        Check.holds("300 calls make " + made + " bytes, answers " + answers, made < 4096);
    }

    private static void anyArgumentsAreAnswered() {
        int[] odd = {Integer.MIN_VALUE, -1000000, -1, 0, 1, 3, 4, 15, 16, 40, 255, Integer.MAX_VALUE};
        HotLetters[] all = {new HotLetters(), Check.told("g4,4,0,20;s0,15;x3,12;"), Check.told("g2,2,2,10;")};
        long answers = 0;
        for (HotLetters x : all) {
            for (int a : odd) {
                for (int b : odd) {
                    answers += x.cut(a, b) + x.mend(a, b) + x.letter(a, b) + x.node(a, b) + x.at(a, b);
                    answers += x.box(a, b) + x.far(a, b) + x.near(a, b) + x.why(a, b, a) + x.why(b, a, 0);
                    answers += x.write(a, b, a) + x.write(1, a, b) + x.worst(a, b, 0) + x.worst(b, 1, a);
                    answers += x.drawn(a, b, 0) + x.drawn(1, a, b) + x.odds(a, b, 5, 0) + x.odds(0, 1, a, b);
                }
                answers += x.feed(a) + x.net() + x.bless(a) + x.unbless(a) + x.rank(a) + x.golden(a);
                answers += x.log(a) + x.sums(a) + x.next(a) + x.ends(a) + x.arrives(a) + x.bridges(a);
                answers += x.image(a) + x.restore(a) + x.count(a) + x.turn(a) + x.undo() + x.fault() + x.help();
            }
        }
        Check.holds("nothing is thrown, whatever is asked: " + answers, true);
    }
}
