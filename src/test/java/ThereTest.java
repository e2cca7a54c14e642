/** Promises 12 to 22: letter, node, at, box, rank, golden, log, sums, far, near, why. */
public final class ThereTest {
    public static void main(String[] args) {
        letter();
        node();
        at();
        box();
        rank();
        golden();
        log();
        sums();
        far();
        near();
        whyOld();
        whyOverrun();
        Check.end();
    }

    private static long[] wholeLetter(HotLetters x, int letter) {
        long[] all = new long[11];
        for (int what = 0; what < all.length; what++) {
            all[what] = x.letter(letter, what);
        }
        return all;
    }

    private static void letter() {
        HotLetters x = Check.told("g3,3,0,20;x6,2;h6,2;");
        int none = Check.NONE;
        Check.due("letter(-1, 0)", x.letter(-1, 0), Check.BAD);
        Check.due("letter(2, 0)", x.letter(2, 0), Check.BAD);
        Check.due("letter(0, -1)", x.letter(0, -1), Check.BAD);
        Check.due("letter(0, 11)", x.letter(0, 11), Check.BAD);
        Check.row("waits", wholeLetter(x, 0), 2, 6, 2, 0, 6, 0, 0, 0, none, none, 0);
        x.bless(1);
        x.turn(3);
        Check.row("flies", wholeLetter(x, 0), 2, 6, 2, 1, 5, 3, 0, 6, 2, none, 0);
        Check.row("flies, cheap", wholeLetter(x, 1), 5, 6, 2, 1, 0, 2, 0, 1, 2, none, 1);
        x.turn(1);
        Check.due("its weight, age 3 by 2", x.letter(1, 7), 1);
        x.turn(2);
        Check.row("delivered", wholeLetter(x, 0), 2, 6, 2, 2, none, 4, 0, 8, none, 4, 0);
        Check.row("delivered, cheap", wholeLetter(x, 1), 5, 6, 2, 2, none, 4, 0, 2, none, 5, 0);
    }

    private static void node() {
        HotLetters x = Check.told("g3,3,0,20;s0,2;s0,2;s3,4;");
        Check.due("node(-1, 0)", x.node(-1, 0), Check.BAD);
        Check.due("node(9, 0)", x.node(9, 0), Check.BAD);
        Check.due("node(0, -1)", x.node(0, -1), Check.BAD);
        Check.due("node(0, 5)", x.node(0, 5), Check.BAD);
        Check.due("ports of a corner", x.node(0, 1), 6);
        Check.due("ports of the other corner", x.node(8, 1), 9);
        Check.due("ports of the middle", x.node(4, 1), 15);
        Check.due("two wait", x.node(0, 2), 2);
        Check.due("none was cut", x.node(0, 4), Check.NONE);
        x.turn(1);
        Check.due("one flies at 1", x.node(1, 0), 1);
        Check.due("one waits yet", x.node(0, 2), 1);
        Check.due("none delivered", x.node(4, 3), 0);
        x.turn(5);
        Check.due("one delivered at 4", x.node(4, 3), 1);
        Check.due("two delivered at 2", x.node(2, 3), 2);
        x.cut(4, 1);
        Check.due("ports, one cut", x.node(4, 1), 13);
        Check.due("cut last", x.node(4, 4), 1);
        Check.due("cut last, from the other end", x.node(5, 4), 3);
    }

    private static void at() {
        HotLetters x = Check.told("g3,3,0,20;s1,4;h3,4;s5,4;x7,4;");
        Check.due("at(-1, 0)", x.at(-1, 0), Check.BAD);
        Check.due("at(9, 0)", x.at(9, 0), Check.BAD);
        Check.due("at(0, -1)", x.at(0, -1), Check.BAD);
        Check.due("what waits does not fly", x.at(1, 0), Check.NONE);
        x.turn(1);
        long[] there = {x.at(4, 0), x.at(4, 1), x.at(4, 2), x.at(4, 3), x.at(4, 4), x.at(4, 999)};
        Check.row("at 4", there, 3, 0, 2, 1, Check.NONE, Check.NONE);
        x.bless(1);
        Check.due("golden", x.at(4, 0), 1);
        Check.due("then", x.at(4, 1), 3);
    }

    private static void box() {
        HotLetters x = Check.told("g3,3,0,20;s0,1;s4,1;s0,2;");
        Check.due("box(-1, 0)", x.box(-1, 0), Check.BAD);
        Check.due("box(9, 0)", x.box(9, 0), Check.BAD);
        Check.due("box(0, -1)", x.box(0, -1), Check.BAD);
        x.write(1, 0, 5);
        long[] there = {x.box(0, 0), x.box(0, 1), x.box(0, 2), x.box(0, 3)};
        Check.row("box of 0", there, 0, 2, 3, Check.NONE);
        x.turn(1);
        Check.due("the first is put in", x.box(0, 0), 2);
        Check.due("box(4, 0)", x.box(4, 0), Check.NONE);
    }

    private static void rank() {
        HotLetters x = Check.told("g4,4,0,20;h0,15;s3,12;x12,3;s15,0;s15,0;");
        Check.due("rank(-1)", x.rank(-1), Check.BAD);
        Check.due("none flies", x.rank(0), Check.NONE);
        x.turn(2);
        long[] all = {x.rank(0), x.rank(1), x.rank(2), x.rank(3), x.rank(4), x.rank(5)};
        Check.row("by weight 4, 2, 2, 1, 1", all, 2, 1, 3, 0, 4, Check.NONE);
        x.bless(4);
        x.bless(0);
        Check.due("the first of the golden ones", x.rank(0), 4);
        Check.due("the second is as others are", x.rank(4), 0);
    }

    private static void golden() {
        HotLetters x = Check.told("g2,2,0,10;s0,1;s0,1;s0,1;");
        Check.due("golden(-1)", x.golden(-1), Check.BAD);
        x.bless(2);
        x.bless(0);
        long[] all = {x.golden(0), x.golden(1), x.golden(2), x.golden(77)};
        Check.row("golden", all, 2, 0, Check.NONE, Check.NONE);
        x.turn(2);
        Check.due("delivered, golden no more", x.golden(1), Check.NONE);
        Check.due("golden(0)", x.golden(0), 2);
        HotLetters old = Check.told("g2,2,0,10;c0,1;c0,2;s1,0;");
        old.bless(0);
        old.turn(11);
        Check.due("lost, golden no more", old.golden(0), Check.NONE);
        HotLetters overrun = Check.told("g2,2,0,10;s0,3;s1,3;");
        overrun.turn(1);
        overrun.cut(1, 2);
        overrun.cut(1, 3);
        overrun.bless(0);
        overrun.turn(1);
        Check.due("overrun", overrun.why(0, 1, 0), 3);
        Check.due("overrun, golden no more", overrun.golden(0), Check.NONE);
    }

    private static void log() {
        HotLetters x = Check.told("g3,3,0,20;s8,7;s0,1;s6,3;s0,2;");
        Check.due("log(-1)", x.log(-1), Check.BAD);
        Check.due("log(0)", x.log(0), Check.NONE);
        x.turn(10);
        // In TURN 1 at the nodes 1, 3, 7; in TURN 3 at node 2.
        long[] all = {x.log(0), x.log(1), x.log(2), x.log(3), x.log(4)};
        Check.row("log", all, 1, 2, 0, 3, Check.NONE);
    }

    private static void sums() {
        HotLetters x = Check.told("g3,3,0,20;s3,5;o1,5;s0,1;");
        Check.due("sums(-1)", x.sums(-1), Check.BAD);
        Check.due("sums(6)", x.sums(6), Check.BAD);
        Check.due("none was delivered", x.sums(5), Check.NONE);
        x.turn(2);
        long[] all = {x.sums(0), x.sums(1), x.sums(2), x.sums(3), x.sums(4), x.sums(5)};
        Check.row("sums", all, 2, 1, 0, 1, 5, 1);
        x.turn(3);
        long[] later = {x.sums(0), x.sums(1), x.sums(2), x.sums(3), x.sums(4), x.sums(5)};
        Check.row("sums, later", later, 5, 3, 0, 1, 7, 4);
        HotLetters lost = Check.told("g2,2,0,10;c0,1;c0,2;s1,0;");
        lost.turn(12);
        Check.due("one is lost", lost.sums(2), 1);
        Check.due("all its turns were aside", lost.sums(3), 10);
        Check.due("none was delivered", lost.sums(5), Check.NONE);
    }

    private static void far() {
        HotLetters x = Check.told("g4,3,0,20;");
        Check.due("far(-1, 0)", x.far(-1, 0), Check.BAD);
        Check.due("far(0, 12)", x.far(0, 12), Check.BAD);
        Check.due("far(0, 0)", x.far(0, 0), 0);
        Check.due("far(0, 11)", x.far(0, 11), 5);
        Check.due("far(3, 8)", x.far(3, 8), 5);
        x.cut(0, 1);
        Check.due("a way round", x.far(0, 1), 3);
        x.cut(0, 2);
        Check.due("no way", x.far(0, 1), Check.NONE);
        Check.due("no way back", x.far(11, 0), Check.NONE);
        Check.due("far(0, 0) all the same", x.far(0, 0), 0);
        HotLetters ring = Check.told("g4,3,1,20;");
        Check.due("ring: far(0, 3)", ring.far(0, 3), 1);
        Check.due("ring: far(0, 8)", ring.far(0, 8), 1);
        Check.due("ring: far(0, 6)", ring.far(0, 6), 3);
        Check.due("ring: far(0, 11)", ring.far(0, 11), 2);
    }

    private static void near() {
        HotLetters x = Check.told("g4,4,1,20;s0,10;o0,10;t0,10;s1,0;");
        Check.due("near(-1, 0)", x.near(-1, 0), Check.BAD);
        Check.due("near(4, 0)", x.near(4, 0), Check.BAD);
        Check.due("near(0, -1)", x.near(0, -1), Check.BAD);
        Check.due("near(0, 4)", x.near(0, 4), Check.BAD);
        Check.row("SEALED, all near", ports(x, 0), 1, 3, 0, 2);
        Check.row("OPEN, all near", ports(x, 1), 0, 2, 1, 3);
        Check.row("one near", ports(x, 3), 3, Check.NONE, Check.NONE, Check.NONE);
        x.turn(1);
        Check.due("letter 3 is at its TO", x.letter(3, 4), 0);
        Check.due("there none is near", x.near(3, 0), Check.NONE);
        x.turn(1);
        Check.due("delivered", x.letter(3, 3), 2);
        Check.due("none is near", x.near(3, 0), Check.NONE);
        Check.due("delivered, but i is bad", x.near(3, 4), Check.BAD);
        x.turn(1);
        // Letter 2 went by 1 to node 1, where it came by 3: 0, 1, 2, 3 without 3, that leads back.
        Check.due("letter(2, 8)", x.letter(2, 8), 3);
        Check.row("TURNING", ports(x, 2), 0, 1, 2, Check.NONE);
        HotLetters apart = Check.told("g2,2,0,10;c0,1;c0,2;s1,0;s0,1;");
        Check.due("no way", apart.near(0, 0), Check.NONE);
        Check.due("no way from there", apart.near(1, 0), Check.NONE);
        HotLetters two = Check.told("g2,2,1,10;s0,1;");
        Check.row("two links to one node", ports(two, 0), 1, 3, Check.NONE, Check.NONE);
    }

    private static long[] ports(HotLetters x, int letter) {
        return new long[] {x.near(letter, 0), x.near(letter, 1), x.near(letter, 2), x.near(letter, 3)};
    }

    private static long[] causes(HotLetters x, int letter) {
        long[] all = new long[8];
        for (int i = 0; i < all.length; i++) {
            all[i] = x.why(letter, i / 2, i % 2);
        }
        return all;
    }

    private static void whyOld() {
        HotLetters x = Check.told("g2,2,0,10;c0,1;c0,2;s1,0;s3,2;");
        int none = Check.NONE;
        Check.due("why(-1, 0, 0)", x.why(-1, 0, 0), Check.BAD);
        Check.due("why(2, 0, 0)", x.why(2, 0, 0), Check.BAD);
        Check.due("why(0, -1, 0)", x.why(0, -1, 0), Check.BAD);
        Check.due("why(0, 0, -1)", x.why(0, 0, -1), Check.BAD);
        Check.due("why(0, 0, 2)", x.why(0, 0, 2), Check.BAD);
        Check.due("why(0, 99, 0)", x.why(0, 99, 0), none);
        x.turn(2);
        x.turn(9);
        Check.row("old", causes(x, 0), 1, 10, 2, 10, none, none, none, none);
        Check.row("not lost", causes(x, 1), none, none, none, none, none, none, none, none);
    }

    private static void whyOverrun() {
        HotLetters x = Check.told("g3,3,0,20;s3,5;o1,5;");
        int none = Check.NONE;
        x.turn(1);
        x.cut(4, 0);
        x.cut(7, 0);
        x.cut(4, 1);
        x.cut(4, 3);
        x.mend(4, 1);
        x.cut(5, 3);
        x.mend(5, 3);
        x.turn(1);
        // The link of port 1 was cut last, at its other end, and is mended since.
        Check.row("overrun", causes(x, 1), 1, 1, 3, 4, 4, 1, none, none);
        x.mend(4, 0);
        x.cut(4, 0);
        Check.due("node(4, 4)", x.node(4, 4), 0);
        Check.row("a later cut is no cause", causes(x, 1), 1, 1, 3, 4, 4, 1, none, none);
        Check.due("letter 0 went on", x.letter(0, 4), 5);
    }
}
