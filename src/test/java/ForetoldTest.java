/** Promises 23 to 33: next to drawn, and what is kept: image, restore, count. */
public final class ForetoldTest {
    /** Node 0 is cut off: a letter to it grows old, one from it waits for ever. */
    private static final String CUT_OFF = "g2,2,0,10;c0,1;c0,2;";

    public static void main(String[] args) {
        next();
        ends();
        endsWithLosses();
        arrives();
        worst();
        help();
        helpOfFive();
        bridges();
        odds();
        oddsOfRoundabouts();
        drawn();
        images();
        count();
        changesNothing();
        Check.end();
    }

    private static void next() {
        HotLetters x = Check.told("g3,3,0,20;s0,8;o0,8;");
        Check.due("next(-1)", x.next(-1), Check.BAD);
        Check.due("next(2)", x.next(2), Check.BAD);
        Check.due("will be put in", x.next(0), 1);
        Check.due("waits yet", x.next(1), Check.NONE);
        x.turn(1);
        Check.due("flies", x.next(0), 1);
        Check.due("will be put in now", x.next(1), 2);
        x.turn(3);
        Check.due("will be delivered", x.next(0), Check.NONE);
        x.turn(1);
        Check.due("is delivered", x.next(0), Check.NONE);
        HotLetters lost = Check.told(CUT_OFF + "s1,0;");
        lost.turn(10);
        Check.due("will be lost", lost.next(0), Check.NONE);
        lost.turn(1);
        Check.due("is lost", lost.next(0), Check.NONE);
    }

    private static void ends() {
        HotLetters x = Check.told("g3,3,0,20;");
        Check.due("ends(-1)", x.ends(-1), Check.BAD);
        Check.due("ends(4)", x.ends(4), Check.BAD);
        Check.row("no letters", allEnds(x), 0, Check.NONE, 0, 0);
        x = Check.told("g3,3,0,20;s3,5;o1,5;s8,7;");
        // Letter 1 is turned aside once and comes in TURN 4.
        Check.row("three letters", allEnds(x), 5, 1, 0, 1);
        x.turn(4);
        Check.row("one is left", allEnds(x), 1, 1, 0, 1);
        x.turn(1);
        Check.row("all have come", allEnds(x), 0, Check.NONE, 0, 1);
        HotLetters two = Check.told("g3,3,0,20;s0,1;s8,7;");
        Check.due("of several the greatest", two.ends(1), 1);
    }

    private static long[] allEnds(HotLetters x) {
        return new long[] {x.ends(0), x.ends(1), x.ends(2), x.ends(3)};
    }

    private static void endsWithLosses() {
        HotLetters x = Check.told(CUT_OFF + "s1,0;s3,0;s2,3;");
        // Letters 0 and 1 grow old in TURN 10; letter 2 comes in TURN 1.
        Check.row("two are lost", allEnds(x), 11, 1, 2, 10);
        x.turn(11);
        Check.row("lost already", allEnds(x), 0, Check.NONE, 0, 10);
        x.write(1, 0, 3);
        Check.row("one waits for ever", allEnds(x), Check.NONE, Check.NONE, Check.NONE, Check.NONE);
        // Two at a time go to and fro till AGE 99: put in in TURNS 0, 1, 100, 101, 200, 201.
        HotLetters slow = Check.told("g2,2,0,99;c0,2;c1,2;" + "s0,3;".repeat(5));
        Check.row("the fifth is lost in TURN 299", allEnds(slow), 300, 4, 5, 99);
        slow.write(1, 0, 3);
        Check.due("the sixth is not by then", slow.ends(0), Check.NONE);
        Check.due("so none can help", slow.help(), Check.NONE);
    }

    private static void arrives() {
        HotLetters x = Check.told("g3,3,0,20;s3,5;o1,5;");
        Check.due("arrives(-1)", x.arrives(-1), Check.BAD);
        Check.due("arrives(2)", x.arrives(2), Check.BAD);
        Check.due("arrives(0)", x.arrives(0), 2);
        Check.due("arrives(1)", x.arrives(1), 4);
        x.turn(1);
        x.cut(4, 1);
        Check.due("by another way", x.arrives(0), 4);
        x.undo();
        x.turn(9);
        Check.due("has arrived", x.arrives(1), 4);
        HotLetters lost = Check.told(CUT_OFF + "s1,0;s0,1;");
        Check.due("will be lost", lost.arrives(0), Check.NONE);
        Check.due("waits for ever", lost.arrives(1), Check.NONE);
        lost.turn(20);
        Check.due("is lost", lost.arrives(0), Check.NONE);
    }

    private static void worst() {
        HotLetters x = Check.told("g2,2,0,10;");
        Check.due("worst(-1, 1, 0)", x.worst(-1, 1, 0), Check.BAD);
        Check.due("worst(4, 1, 0)", x.worst(4, 1, 0), Check.BAD);
        Check.due("worst(0, 0, 0)", x.worst(0, 0, 0), Check.BAD);
        Check.due("worst(0, 6, 0)", x.worst(0, 6, 0), Check.BAD);
        Check.due("worst(0, 1, 2)", x.worst(0, 1, 2), Check.BAD);
        Check.due("worst(0, 1, -1)", x.worst(0, 1, -1), Check.BAD);
        Check.due("across", x.worst(0, 1, 0), 2);
        Check.due("to 3", x.worst(0, 1, 1), 3);
        x.turn(7);
        Check.due("from now, not from the first", x.worst(3, 5, 0), 2);
        x.write(1, 0, 3);
        Check.due("behind one that waits", x.worst(0, 1, 0), 3);
        HotLetters even = Check.told("g4,4,1,20;");
        Check.due("of several the least", even.worst(10, 1, 1), 0);
        HotLetters line = Check.told("g2,2,0,10;c0,1;");
        Check.due("of a row, its other end", line.worst(0, 2, 1), 1);
        HotLetters off = Check.told(CUT_OFF);
        Check.due("neither by then", off.worst(0, 1, 0), 300);
        Check.due("TO", off.worst(0, 1, 1), 1);
        Check.due("lost, when old", off.worst(3, 1, 0), 10);
        Check.due("TO", off.worst(3, 1, 1), 0);
        for (int i = x.count(1); i < 40; i++) {
            x.write(1, 0, 1);
        }
        Check.due("full", x.worst(0, 1, 0), Check.FULL);
        Check.due("bad and full", x.worst(0, 6, 0), Check.BAD);
    }

    private static void help() {
        HotLetters x = Check.told("g4,3,0,20;s4,6;o1,7;");
        Check.due("as it is", x.ends(0), 6);
        Check.due("letter 1 has the longer way", x.help(), 1);
        x.bless(1);
        Check.due("with that", x.ends(0), 5);
        Check.due("help() of what is blessed", x.help(), 1);
        x.unbless(1);
        x.bless(0);
        x.bless(1);
        Check.due("ahead of the others", x.help(), 1);
        x.turn(8);
        Check.due("none is left", x.help(), Check.NONE);
        HotLetters even = Check.told("g3,3,0,20;s3,5;o1,5;");
        Check.due("of several the least", even.help(), 0);
        even.write(1, 8, 0);
        even.cut(8, 0);
        even.cut(8, 3);
        Check.due("by none all come to an end", even.help(), Check.NONE);
    }

    /** Four are golden already; the fifth is put ahead of them. */
    private static void helpOfFive() {
        HotLetters x = Check.told("g4,3,0,20;s4,6;o1,7;s11,10;s11,10;s11,10;");
        x.bless(0);
        x.bless(2);
        x.bless(3);
        x.bless(4);
        Check.due("help()", x.help(), 1);
        Check.due("golden(3) stays", x.golden(3), 4);
        Check.due("letter 1 is not golden", x.letter(1, 10), 0);
    }

    private static void bridges() {
        HotLetters x = Check.told("g3,2,0,10;");
        Check.due("bridges(-1)", x.bridges(-1), Check.BAD);
        Check.due("bridges(2)", x.bridges(2), Check.BAD);
        Check.due("none", x.bridges(0), 0);
        Check.due("the first of none", x.bridges(1), Check.NONE);
        x.cut(2, 2);
        // Nodes 2 and 5 hang by one link each: from 1 by port 1, from 4 by port 1.
        Check.due("two", x.bridges(0), 2);
        Check.due("the first", x.bridges(1), 5);
        x.cut(1, 1);
        Check.due("one is left", x.bridges(0), 1);
        Check.due("it", x.bridges(1), 17);
        HotLetters ring = Check.told("g2,2,1,10;");
        Check.due("two links each: none", ring.bridges(0), 0);
        ring.cut(0, 3);
        ring.cut(2, 3);
        ring.cut(0, 0);
        ring.cut(1, 0);
        ring.cut(3, 1);
        ring.cut(2, 1);
        Check.due("a way of three links", ring.bridges(0), ring.count(4));
    }

    private static void odds(String text, int letter, int node, int p, long above, long below) {
        HotLetters x = Check.told(text);
        String call = "odds(" + letter + ", " + node + ", " + p + ") of " + text;
        Check.due(call + " above", x.odds(letter, node, p, 0), above);
        Check.due(call + " below", x.odds(letter, node, p, 1), below);
    }

    private static void odds() {
        HotLetters x = Check.told("g2,2,0,10;s0,1;");
        Check.due("letter -1", x.odds(-1, 0, 5, 0), Check.BAD);
        Check.due("letter 1", x.odds(1, 0, 5, 0), Check.BAD);
        Check.due("node -1", x.odds(0, -1, 5, 0), Check.BAD);
        Check.due("node 4", x.odds(0, 4, 5, 0), Check.BAD);
        Check.due("p -1", x.odds(0, 0, -1, 0), Check.BAD);
        Check.due("p 11", x.odds(0, 0, 11, 0), Check.BAD);
        Check.due("what -1", x.odds(0, 0, 5, -1), Check.BAD);
        Check.due("what 2", x.odds(0, 0, 5, 2), Check.BAD);
        // It comes, but if both links of its node fail.
        odds("g2,2,0,10;s0,1;", 0, 0, 0, 1, 1);
        odds("g2,2,0,10;s0,1;", 0, 0, 3, 91, 100);
        odds("g2,2,0,10;s0,1;", 0, 0, 5, 3, 4);
        odds("g2,2,0,10;s0,1;", 0, 0, 10, 0, 1);
        odds("g2,2,0,10;s0,1;", 0, 3, 9, 1, 1);
        odds("g2,2,0,10;c0,1;s0,1;", 0, 0, 4, 3, 5);
        odds("g4,4,2,20;s5,6;", 0, 5, 7, 7599, 10000);
    }

    private static void oddsOfRoundabouts() {
        odds(CUT_OFF + "s0,1;", 0, 0, 5, 0, 1);
        odds(CUT_OFF + "s1,3;", 0, 0, 5, 1, 1);
        HotLetters x = Check.told("g2,2,0,10;s0,1;");
        x.turn(5);
        Check.due("delivered: above", x.odds(0, 0, 10, 0), 1);
        Check.due("delivered: below", x.odds(0, 0, 10, 1), 1);
        // A letter that flies at a node whose links all fail is overrun.
        HotLetters flying = Check.told("g3,3,0,20;s3,5;");
        flying.turn(1);
        Check.due("in the middle: above", flying.odds(0, 4, 5, 0), 15);
        Check.due("in the middle: below", flying.odds(0, 4, 5, 1), 16);
    }

    private static void drawn() {
        HotLetters x = Check.told("g4,4,0,10;");
        Check.due("drawn(-1, 1, 0)", x.drawn(-1, 1, 0), Check.BAD);
        Check.due("drawn(11, 1, 0)", x.drawn(11, 1, 0), Check.BAD);
        Check.due("drawn(1, 0, 0)", x.drawn(1, 0, 0), Check.BAD);
        Check.due("drawn(1, 1000000, 0)", x.drawn(1, 1000000, 0), Check.BAD);
        Check.due("drawn(0, 999999, 0)", x.drawn(0, 999999, 0), 0);
        Check.due("drawn(1, 1, -1)", x.drawn(1, 1, -1), Check.BAD);
        Check.due("drawn(1, 1, 3)", x.drawn(1, 1, 3), Check.BAD);
        Check.due("no years", x.drawn(0, 1, 0), 0);
        // X is 16807: from 7 to 13, 4 links: one in the year, 3 and the delivery behind it.
        Check.due("from 7 to 13", x.drawn(1, 1, 0), 4);
        // Then 282475249: from 1 to 7, 3 links: both come in TURN 4.
        Check.due("and from 1 to 7", x.drawn(2, 1, 0), 3);
        Check.due("none is lost", x.drawn(2, 1, 1), 0);
        Check.due("none aside", x.drawn(2, 1, 2), 0);
        HotLetters off = Check.told(CUT_OFF);
        // X is 67228: from 0 to 0, so to 1; node 0 is cut off.
        Check.due("it waits for ever", off.drawn(1, 4, 0), Check.NONE);
        Check.due("not lost", off.drawn(1, 4, 1), 0);
        // X is 218491: from 3 to 3, so to the first, 0.
        Check.due("it grows old", off.drawn(1, 13, 0), 10);
        Check.due("it is lost", off.drawn(1, 13, 1), 1);
        Check.due("aside all the time", off.drawn(1, 13, 2), 10);
        // X is 100842: from 10 to 15 of KIND 4, OPEN, so by 14, where letter 0 takes the way.
        HotLetters open = Check.told("g4,4,0,10;s13,11;");
        Check.due("it comes in TURN 4", open.drawn(1, 6, 0), 4);
        Check.due("once aside", open.drawn(1, 6, 2), 1);
        HotLetters full = Check.told("g2,2,0,10;");
        for (int i = 0; i < 40; i++) {
            full.write(1, i % 4, (i + 1) % 4);
        }
        full.turn(50);
        Check.due("all have come", full.sums(1), 40);
        Check.due("no room, so nothing to let go", full.drawn(10, 7, 0), 0);
    }

    private static void images() {
        HotLetters x = Check.told("g2,2,0,10;s0,3;");
        Check.due("image(-1)", x.image(-1), Check.BAD);
        Check.due("image(2)", x.image(2), Check.BAD);
        Check.due("restore(-1)", x.restore(-1), Check.BAD);
        Check.due("restore(2)", x.restore(2), Check.BAD);
        Check.due("restore(0), none kept", x.restore(0), Check.STATE);
        x.turn(1);
        Check.due("image(0)", x.image(0), 1);
        Check.due("image is no act", x.count(5), 1);
        x.bless(0);
        x.cut(0, 1);
        Check.due("image(1)", x.image(1), 1);
        x.turn(5);
        x.write(3, 1, 2);
        Check.feed(x, "g3");
        Check.due("restore(0)", x.restore(0), 1);
        Check.due("the tape stays", x.count(6), 2);
        Check.due("no act can be undone", x.undo(), Check.STATE);
        Check.due("sums(0)", x.sums(0), 1);
        Check.due("count(1)", x.count(1), 1);
        Check.due("letter(0, 4)", x.letter(0, 4), 1);
        Check.due("letter(0, 10)", x.letter(0, 10), 0);
        Check.due("count(4)", x.count(4), 4);
        Check.due("far(0, 1)", x.far(0, 1), 1);
        Check.due("restore(1)", x.restore(1), 1);
        Check.due("golden(0)", x.golden(0), 0);
        Check.due("count(4)", x.count(4), 3);
        Check.due("far(0, 1)", x.far(0, 1), 3);
        Check.due("node(0, 4)", x.node(0, 4), 1);
        x.turn(3);
        Check.due("an image can be had again", x.restore(1), 1);
        Check.due("sums(0)", x.sums(0), 1);
        Check.due("an image anew", x.image(0), 1);
        x.restore(0);
        Check.due("is the later one", x.count(4), 3);
        imageOfAllThatWas();
    }

    private static void imageOfAllThatWas() {
        HotLetters x = Check.told("g3,3,0,20;s3,5;o1,5;s8,7;");
        x.turn(1);
        x.cut(4, 0);
        x.cut(4, 2);
        x.cut(4, 3);
        x.turn(1);
        x.image(0);
        Check.feed(x, "g2,2,0,10;s0,1;s0,2;s0,3;");
        x.net();
        x.turn(9);
        x.restore(0);
        Check.due("log(0)", x.log(0), 2);
        Check.due("why(1, 1, 0)", x.why(1, 1, 0), 3);
        Check.due("why(1, 1, 1)", x.why(1, 1, 1), 4);
        Check.due("why(1, 2, 1)", x.why(1, 2, 1), 3);
        Check.due("sums(5)", x.sums(5), 1);
    }

    private static void count() {
        HotLetters x = Check.told("g3,4,0,20;c0,1;s0,5;s0,6;s1,2;");
        x.turn(1);
        x.feed('g');
        Check.due("count(-1)", x.count(-1), Check.BAD);
        Check.due("count(7)", x.count(7), Check.BAD);
        long[] all = {x.count(0), x.count(1), x.count(2), x.count(3), x.count(4), x.count(5), x.count(6)};
        Check.row("count", all, 12, 3, 1, 2, 16, 1, 1);
        x.turn(1);
        Check.due("one is delivered, none waits", x.count(2), 0);
        Check.due("two fly", x.count(3), 2);
        HotLetters ring = Check.told("g2,3,1,20;");
        Check.due("links of a ring", ring.count(4), 12);
    }

    private static void changesNothing() {
        HotLetters x = Check.told("g3,3,1,20;s0,8;x0,8;t0,8;o4,0;h4,0;");
        x.bless(2);
        x.turn(2);
        x.next(0);
        x.ends(0);
        x.arrives(1);
        x.worst(0, 2, 0);
        x.help();
        x.bridges(0);
        x.odds(0, 4, 5, 0);
        x.drawn(10, 12345, 0);
        Check.due("count(1)", x.count(1), 5);
        Check.due("count(4)", x.count(4), 18);
        Check.due("count(5)", x.count(5), 2);
        Check.due("sums(0)", x.sums(0), 2);
        Check.due("golden(0)", x.golden(0), 2);
        Check.due("golden(1)", x.golden(1), Check.NONE);
        Check.due("node(4, 4)", x.node(4, 4), Check.NONE);
    }
}
