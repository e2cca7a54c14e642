/** Promises 6 to 11: write, bless, unbless, cut, mend, turn. */
public final class DoneTest {
    /** A letter from the west and one from the north meet at node 4, both on their way to 5. */
    private static final String MEETING = "g3,3,0,20;s3,5;o1,5;";

    public static void main(String[] args) {
        write();
        bless();
        unbless();
        cut();
        mend();
        turn();
        deliversOneAtANode();
        losesOldOnesBehindDelivery();
        losesTheLastByRank();
        putsInWhereThereIsRoom();
        ranksByGoldenAndWeight();
        goldenOneIsChosenAsTheTurnBegins();
        turnsByTaste();
        swaps();
        wishesByNumber();
        seatsOfNewcomers();
        Check.end();
    }

    private static void write() {
        HotLetters x = Check.told("g2,2,0,10;");
        Check.due("write(0, 0, 1)", x.write(0, 0, 1), Check.BAD);
        Check.due("write(6, 0, 1)", x.write(6, 0, 1), Check.BAD);
        Check.due("write(1, -1, 1)", x.write(1, -1, 1), Check.BAD);
        Check.due("write(1, 4, 1)", x.write(1, 4, 1), Check.BAD);
        Check.due("write(1, 0, -1)", x.write(1, 0, -1), Check.BAD);
        Check.due("write(1, 0, 4)", x.write(1, 0, 4), Check.BAD);
        Check.due("write(1, 2, 2)", x.write(1, 2, 2), Check.BAD);
        Check.due("none of these is an act", x.count(5), 0);
        for (int i = 0; i < 40; i++) {
            Check.due("write number " + i, x.write(1 + i % 5, i % 4, (i + 1) % 4), i);
        }
        Check.due("write, full", x.write(1, 0, 1), Check.FULL);
        Check.due("write, bad and full", x.write(1, 0, 0), Check.BAD);
        Check.due("count(1)", x.count(1), 40);
        Check.due("box(3, 9)", x.box(3, 9), 39);
        Check.due("box(3, 10)", x.box(3, 10), Check.NONE);
        x.undo();
        Check.due("write, one undone", x.write(5, 0, 1), 39);
    }

    private static void bless() {
        HotLetters x = Check.told("g2,2,0,10;s0,1;s0,1;s0,1;s0,1;s0,1;s2,3;");
        Check.due("bless(-1)", x.bless(-1), Check.BAD);
        Check.due("bless(6)", x.bless(6), Check.BAD);
        x.turn(2);
        Check.due("letter 5 is delivered", x.letter(5, 3), 2);
        Check.due("bless(5)", x.bless(5), Check.STATE);
        Check.due("bless(3)", x.bless(3), 1);
        Check.due("bless(3) again", x.bless(3), Check.STATE);
        Check.due("bless(1)", x.bless(1), 2);
        Check.due("bless(2)", x.bless(2), 3);
        Check.due("bless(4)", x.bless(4), 4);
        Check.due("write", x.write(1, 0, 1), 6);
        Check.due("bless(6), full", x.bless(6), Check.FULL);
        Check.due("bless(4), one, and full", x.bless(4), Check.STATE);
        Check.due("bless(5), delivered, and full", x.bless(5), Check.STATE);
        x.turn(1);
        Check.due("delivered: golden no more", x.golden(3), Check.NONE);
        Check.due("golden(0)", x.golden(0), 3);
        Check.due("golden(1)", x.golden(1), 2);
        Check.due("bless(6), room", x.bless(6), 4);
    }

    private static void unbless() {
        HotLetters x = Check.told("g2,2,0,10;s0,1;s0,1;s0,1;");
        Check.due("unbless(-1)", x.unbless(-1), Check.BAD);
        Check.due("unbless(3)", x.unbless(3), Check.BAD);
        Check.due("unbless(0)", x.unbless(0), Check.STATE);
        x.bless(2);
        x.bless(0);
        x.bless(1);
        Check.due("unbless(0)", x.unbless(0), 2);
        Check.due("golden(0)", x.golden(0), 2);
        Check.due("golden(1)", x.golden(1), 1);
        Check.due("unbless(0) again", x.unbless(0), Check.STATE);
        Check.due("unbless(2)", x.unbless(2), 1);
        Check.due("unbless(1)", x.unbless(1), 0);
    }

    private static void cut() {
        HotLetters x = Check.told("g3,2,0,10;");
        Check.due("cut(-1, 0)", x.cut(-1, 0), Check.BAD);
        Check.due("cut(6, 0)", x.cut(6, 0), Check.BAD);
        Check.due("cut(0, -1)", x.cut(0, -1), Check.BAD);
        Check.due("cut(1, 4)", x.cut(1, 4), Check.BAD);
        Check.due("cut(0, 0)", x.cut(0, 0), Check.BAD);
        Check.due("cut(2, 1)", x.cut(2, 1), Check.BAD);
        Check.due("cut(0, 1)", x.cut(0, 1), 6);
        Check.due("cut(0, 1) again", x.cut(0, 1), Check.STATE);
        Check.due("cut(1, 3), its other end", x.cut(1, 3), Check.STATE);
        Check.due("cut(4, 0)", x.cut(4, 0), 5);
        Check.due("node(1, 1)", x.node(1, 1), 2);
        Check.due("node(1, 4)", x.node(1, 4), 2);
        Check.due("node(4, 4)", x.node(4, 4), 0);
        Check.due("count(5)", x.count(5), 2);
        HotLetters ring = Check.told("g2,2,1,10;");
        Check.due("two links between 0 and 1", ring.cut(0, 1), 7);
        Check.due("the other one", ring.cut(1, 1), 6);
        Check.due("which is this", ring.cut(0, 3), Check.STATE);
        Check.due("far(0, 1)", ring.far(0, 1), 3);
    }

    private static void mend() {
        HotLetters x = Check.told("g2,2,0,10;c0,1;");
        Check.due("mend(4, 0)", x.mend(4, 0), Check.BAD);
        Check.due("mend(0, 4)", x.mend(0, 4), Check.BAD);
        Check.due("mend(0, -1)", x.mend(0, -1), Check.BAD);
        Check.due("mend(0, 0)", x.mend(0, 0), Check.BAD);
        Check.due("mend(0, 2)", x.mend(0, 2), Check.STATE);
        Check.due("mend(1, 3)", x.mend(1, 3), 4);
        Check.due("mend(0, 1)", x.mend(0, 1), Check.STATE);
        Check.due("far(0, 1)", x.far(0, 1), 1);
        Check.due("node(0, 1)", x.node(0, 1), 6);
        Check.due("node(0, 4), though mended", x.node(0, 4), 1);
        Check.due("node(1, 4), though mended", x.node(1, 4), 3);
    }

    private static void turn() {
        HotLetters x = Check.told("g2,2,0,10;s0,1;s0,2;s0,3;");
        Check.due("turn(0)", x.turn(0), Check.BAD);
        Check.due("turn(51)", x.turn(51), Check.BAD);
        Check.due("turn(-1)", x.turn(-1), Check.BAD);
        Check.due("sums(0)", x.sums(0), 0);
        Check.due("turn(2)", x.turn(2), 1);
        Check.due("turn(1)", x.turn(1), 1);
        Check.due("turn(50)", x.turn(50), 1);
        Check.due("sums(0)", x.sums(0), 53);
        Check.due("sums(1)", x.sums(1), 3);
    }

    /** Four letters come to node 4 at once; one is delivered in a TURN, by RANK. */
    private static void deliversOneAtANode() {
        HotLetters x = Check.told("g3,3,0,20;s1,4;s3,4;s5,4;x7,4;");
        x.turn(1);
        Check.due("node(4, 0)", x.node(4, 0), 4);
        Check.due("turn(1)", x.turn(1), 1);
        Check.due("log(0), the express one", x.log(0), 3);
        // The others have no near port: by rank the least ports 0, 1, 2.
        Check.due("letter(0, 4)", x.letter(0, 4), 1);
        Check.due("letter(1, 4)", x.letter(1, 4), 5);
        Check.due("letter(2, 4)", x.letter(2, 4), 7);
        Check.due("letter(0, 6)", x.letter(0, 6), 1);
        Check.due("letter(0, 8)", x.letter(0, 8), 2);
        Check.due("turn(1)", x.turn(1), 0);
        Check.due("turn(1)", x.turn(1), 1);
        Check.due("log(1)", x.log(1), 0);
        Check.due("letter(0, 9)", x.letter(0, 9), 3);
    }

    /** A way of 10 and of 11 links, like a snake: AGE 10 is LIFE, but delivery comes first. */
    private static void losesOldOnesBehindDelivery() {
        HotLetters x = Check.told("g4,4,0,10;c0,2;c1,2;c2,2;c5,2;c6,2;c7,2;s0,10;s0,11;");
        Check.due("far(0, 10)", x.far(0, 10), 10);
        Check.due("turn(10)", x.turn(10), 0);
        Check.due("letter(0, 5)", x.letter(0, 5), 10);
        Check.due("turn(1)", x.turn(1), 1);
        Check.due("letter(0, 3)", x.letter(0, 3), 2);
        Check.due("letter(1, 3)", x.letter(1, 3), 1);
        Check.due("turn(1)", x.turn(1), 0);
        Check.due("letter(1, 3)", x.letter(1, 3), 3);
        Check.due("letter(1, 5)", x.letter(1, 5), 10);
        Check.due("letter(1, 9)", x.letter(1, 9), 11);
        Check.due("letter(1, 4)", x.letter(1, 4), Check.NONE);
    }

    private static void losesTheLastByRank() {
        HotLetters x = Check.told(MEETING);
        x.turn(1);
        x.cut(4, 0);
        x.cut(4, 2);
        x.cut(4, 3);
        x.image(0);
        x.turn(1);
        Check.due("letter 0 flies", x.letter(0, 3), 1);
        Check.due("letter 1 is lost", x.letter(1, 3), 3);
        x.restore(0);
        x.bless(1);
        x.turn(1);
        Check.due("letter 0 is lost", x.letter(0, 3), 3);
        Check.due("letter 1, golden, flies", x.letter(1, 3), 1);
        Check.due("it is where it was to come", x.letter(1, 4), 5);
    }

    /** Node 0 has two links: what flies through it leaves room for one of its own in each TURN. */
    private static void putsInWhereThereIsRoom() {
        HotLetters x = Check.told("g2,2,0,10;s0,3;s0,3;s0,3;");
        Check.due("next(1)", x.next(1), Check.NONE);
        x.turn(1);
        Check.due("one is put in", x.count(3), 1);
        Check.due("box(0, 0)", x.box(0, 0), 1);
        x.turn(1);
        Check.due("the next one", x.letter(1, 3), 1);
        Check.due("it has flown once", x.letter(1, 5), 1);
        HotLetters full = Check.told("g2,2,0,10;c0,2;s1,0;s1,0;s0,1;");
        full.turn(1);
        Check.due("node 0 had room", full.letter(2, 3), 1);
        full = Check.told("g2,2,0,10;c0,2;s1,2;s0,1;");
        full.cut(0, 1);
        full.turn(5);
        Check.due("a node without links puts none in", full.letter(1, 3), 0);
        Check.due("its age", full.letter(1, 5), 0);
        full.mend(0, 1);
        full.turn(1);
        Check.due("mended, it does", full.letter(1, 3), 1);
    }

    private static void ranksByGoldenAndWeight() {
        HotLetters x = Check.told(MEETING);
        x.turn(1);
        Check.due("rank(0)", x.rank(0), 0);
        Check.due("next(0)", x.next(0), 1);
        Check.due("next(1), aside by the least port", x.next(1), 0);
        x.bless(1);
        Check.due("rank(0), golden", x.rank(0), 1);
        Check.due("next(1), golden", x.next(1), 1);
        Check.due("next(0), aside", x.next(0), 0);
        HotLetters cheap = Check.told("g3,3,0,20;h3,5;o1,5;");
        cheap.turn(1);
        Check.due("a cheap one of age 1 weighs nothing", cheap.letter(0, 7), 0);
        Check.due("rank(0)", cheap.rank(0), 1);
        Check.due("next(1)", cheap.next(1), 1);
        HotLetters express = Check.told("g3,3,0,20;o1,5;x3,5;");
        express.turn(1);
        Check.due("an express one weighs twice", express.letter(1, 7), 2);
        Check.due("rank(0)", express.rank(0), 1);
        Check.due("next(1)", express.next(1), 1);
        Check.due("next(0)", express.next(0), 0);
    }

    /** The golden one is delivered first; the next of the list has no rank of its own till then. */
    private static void goldenOneIsChosenAsTheTurnBegins() {
        HotLetters x = Check.told("g3,3,0,20;s3,5;o1,5;s3,4;");
        x.turn(1);
        x.bless(2);
        x.bless(1);
        Check.due("letter 2 waits, so 1 is the golden one", x.rank(0), 1);
        x.undo();
        x.undo();
        x = Check.told("g3,3,0,20;s3,5;o1,5;s5,4;");
        x.turn(1);
        x.bless(2);
        x.bless(1);
        Check.due("all meet at 4", x.node(4, 0), 3);
        Check.due("rank(0)", x.rank(0), 2);
        Check.due("rank(1)", x.rank(1), 0);
        Check.due("next(2), delivered", x.next(2), Check.NONE);
        Check.due("next(0) takes the way", x.next(0), 1);
        Check.due("next(1), not the golden one of this TURN", x.next(1), 0);
        x.turn(1);
        Check.due("golden(0)", x.golden(0), 1);
        Check.due("rank(0) behind that", x.rank(0), 1);
    }

    private static void turnsByTaste() {
        HotLetters x = Check.told("g3,3,0,20;t6,2;s6,2;o6,2;h6,2;x6,2;");
        Check.due("TURNING, waits: as SEALED", x.near(0, 0), 1);
        Check.due("SEALED", x.near(1, 0), 1);
        Check.due("OPEN", x.near(2, 0), 0);
        Check.due("CHEAP, an OPEN one", x.near(3, 0), 0);
        Check.due("EXPRESS, a SEALED one", x.near(4, 0), 1);
        x.turn(1);
        Check.due("letter(0, 4)", x.letter(0, 4), 7);
        Check.due("it came by 3", x.letter(0, 8), 3);
        Check.due("TURNING by 3: 0 ahead of 1", x.near(0, 0), 0);
        Check.due("TURNING by 3: then 1", x.near(0, 1), 1);
        x.turn(1);
        Check.due("letter(0, 4)", x.letter(0, 4), 4);
        Check.due("letter(1, 4)", x.letter(1, 4), 7);
        Check.due("TURNING by 2: 0 ahead of 1", x.near(0, 0), 0);
        Check.due("SEALED: 1 ahead of 0", x.near(1, 0), 1);
        x.turn(1);
        Check.due("letter(0, 4)", x.letter(0, 4), 1);
        Check.due("letter(1, 4)", x.letter(1, 4), 8);
    }

    /** Both come to node 5 and wish port 1; they sit in seats 3 and 2, so one block parts them. */
    private static void swaps() {
        HotLetters x = Check.told("g4,4,2,20;s4,6;o9,6;");
        x.turn(1);
        Check.due("node(5, 0)", x.node(5, 0), 2);
        Check.due("next(0), to the upper block by its wish", x.next(0), 1);
        Check.due("next(1), to the lower block", x.next(1), 2);
        x.bless(1);
        Check.due("next(1), golden", x.next(1), 1);
        Check.due("next(0)", x.next(0), 2);
        x.undo();
        x.cut(5, 3);
        Check.due("three links: by rank", x.next(0), 1);
        Check.due("three links: the least port", x.next(1), 0);
        HotLetters byRank = Check.told("g4,4,1,20;s4,6;o9,6;");
        byRank.turn(1);
        Check.due("WAY 1: next(1)", byRank.next(1), 0);
        // From seats 3 and 0, both go to the upper block; there one takes the other port.
        HotLetters upper = Check.told("g4,4,2,20;s4,6;o1,6;");
        upper.turn(1);
        Check.due("upper: next(0)", upper.next(0), 1);
        Check.due("upper: next(1)", upper.next(1), 0);
    }

    /** Node 15 is cut off, so nobody has a near port. */
    private static void wishesByNumber() {
        String off = "c15,0;c15,1;c15,2;c15,3;";
        HotLetters x = Check.told("g4,4,2,20;" + off + "s5,15;s6,15;s9,15;s10,15;s1,15;");
        for (int letter = 0; letter < 5; letter++) {
            Check.due("next(" + letter + ")", x.next(letter), letter % 4);
        }
        x.turn(1);
        Check.due("sums(3), all aside", x.sums(3), 5);
        HotLetters byRank = Check.told("g4,4,1,20;" + off + "s5,15;s6,15;");
        Check.due("WAY 1: next(1)", byRank.next(1), 0);
    }

    /** One that is just put in sits in seat 0, in a block with the letter that came by port 1. */
    private static void seatsOfNewcomers() {
        HotLetters x = Check.told("g4,4,2,20;s7,10;");
        x.turn(1);
        Check.due("letter(0, 4)", x.letter(0, 4), 6);
        Check.due("letter(0, 8)", x.letter(0, 8), 1);
        Check.due("write", x.write(1, 6, 2), 1);
        // Letter 0 is first in the block and wishes 2: the lower block; the new one has the upper.
        Check.due("next(0)", x.next(0), 2);
        Check.due("next(1)", x.next(1), 0);
        x.undo();
        Check.due("write", x.write(1, 6, 10), 1);
        // This one wishes 2, too, but has to go to the upper block, whose lesser port is 0.
        Check.due("next(1), not its wish", x.next(1), 0);
        x.undo();
        Check.due("write at an empty node", x.write(1, 9, 13), 1);
        Check.due("next(1), its wish", x.next(1), 2);
    }
}
