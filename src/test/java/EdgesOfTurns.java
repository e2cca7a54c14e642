/** "Terms" 3: the steps of a TURN, WHY a letter is lost, ACTS. */
final class EdgesOfTurns {
    /** Both fly to node 4 in one TURN, on their way to node 5. */
    private static final String MEETING = """
        reads g3,3,0,20;s3,5;o1,5; = 2
        turn 1 = 0
        at 4 0..2 = 0 1 NONE
        """;

    private EdgesOfTurns() {
    }

    static void all() {
        Edges.part("Terms 3");
        steps();
        delivered();
        old();
        overrun();
        overrunBehindTheOthers();
        putIn();
        byRank();
        bySwaps();
        seats();
        wishes();
        blocks();
        goes();
        whyOld();
        whyOverrun();
        acts();
        actsAreForgotten();
    }

    private static void steps() {
        // Node 3 is done with its step 1 before node 0 is with its step 4, and so on.
        Edges.says("A TURN, for all NODES, one step behind the other", """
            reads g2,2,0,20;c0,2;s1,0;s0,1; = 2
            turn 1 = 0
            write 1 0 3 = 2
            write 1 1 2 = 3
            turn 1 = 2
            letter 0..3 3 = 2 2 1 1
            letter 2..3 4 = 1 3
            """);
    }

    private static void delivered() {
        Edges.says("of the letters that FLY there and are to come there, the first by RANK is DELIVERED.", """
            reads g3,3,0,20;s1,4;s3,4;s5,4;x7,4; = 4
            turn 1 = 0
            node 4 0 = 4
            turn 1 = 1
            log 0..1 = 3 NONE
            # The others have no near port: by rank the least ones.
            letter 0..2 4 = 1 5 7
            turn 1 = 0
            turn 1 = 1
            log 1 = 0
            # The golden one of them is first.
            reads g3,3,0,20;s1,4;s3,4;s5,4;x7,4; = 4
            turn 1 = 0
            bless 2 = 1
            turn 1 = 1
            log 0 = 2
            # What flies there, but is to come elsewhere, is not delivered, whatever its rank.
            reads g3,3,0,20;x3,5;s1,4; = 2
            turn 1 = 0
            at 4 0..1 = 0 1
            turn 1 = 1
            log 0..1 = 1 NONE
            """);
        Edges.says("1 At each NODE", """
            reads g3,3,0,20;s8,7;s0,1;s6,3;s2,5; = 4
            turn 1 = 0
            turn 1 = 4
            log 0..4 = 1 2 3 0 NONE
            """);
    }

    private static void old() {
        Edges.says("2 Each that FLIES and whose AGE is LIFE or more is LOST: OLD.", """
            reads g2,2,0,10;c0,1;c0,2;s1,0; = 1
            turn 9
            letter 0 5 = 9
            turn 1
            letter 0 5 = 10
            letter 0 3 = 1
            next 0 = NONE
            turn 1
            letter 0 3 = 3
            letter 0 5 = 10
            letter 0 9 = 10
            why 0 1 0..1 = 2 10
            # LIFE 99.
            reads g2,2,0,99;c0,1;c0,2;s1,0; = 1
            turn 50
            turn 49
            letter 0 3 = 1
            letter 0 5 = 99
            turn 1
            letter 0 3 = 3
            # One that waits grows no older.
            reads g2,2,0,10;c0,1;c0,2;s0,3; = 1
            turn 50
            letter 0 3 = 0
            letter 0 5 = 0
            """);
        // A way of 10 links, and one of 11: at AGE 10 the first is where it was to come.
        Edges.says("2 Each that FLIES and whose AGE is LIFE or more is LOST: OLD.", """
            reads g4,4,0,10;c0,2;c1,2;c2,2;c5,2;c6,2;c7,2;s0,10;s0,11; = 2
            turn 10 = 0
            turn 1 = 1
            letter 0 3 = 2
            letter 0 5 = 10
            turn 1 = 0
            letter 1 3 = 3
            letter 1 9 = 11
            # Two of AGE 11 are at their TO: one is delivered, the other one is old.
            reads g2,2,0,11;c0,1;c0,2;s1,0;s2,0; = 2
            turn 10 = 0
            letter 0..1 4 = 1 2
            mend 0 1 = 3
            mend 0 2 = 4
            turn 1 = 0
            letter 0..1 4 = 0
            turn 1 = 1
            letter 0..1 3 = 2 3
            why 1 1 0..1 = 2 11
            """);
    }

    private static void overrun() {
        String overrun = "3 Where more FLY at a NODE than it has LINKS, the last ones by RANK";
        Edges.says(overrun, MEETING + """
            cut 4 0
            cut 4 2
            # Two letters, two links.
            turn 1
            sums 2 = 0
            """ + MEETING + """
            cut 4 0
            cut 4 2
            cut 4 3
            # Two letters, one link.
            turn 1
            sums 2 = 1
            letter 0..1 3 = 1 3
            """ + MEETING + """
            cut 4 0
            cut 4 1
            cut 4 2
            cut 4 3
            # Two letters, no link.
            turn 1
            sums 2 = 2
            """ + MEETING + """
            cut 4 0
            cut 4 2
            cut 4 3
            # The last by rank is another one, if the last is golden.
            bless 1 = 1
            turn 1
            letter 0..1 3 = 3 1
            """);
        // Four letters at one node: three, two, one, none can stay.
        String four = """
            reads g3,3,0,20;s3,5;o1,7;s5,3;o7,1; = 4
            turn 1 = 0
            at 4 0..4 = 0 1 2 3 NONE
            """;
        Edges.says(overrun, four + """
            turn 1
            letter 0..3 3 = 1
            """ + four + """
            cut 4 3
            turn 1
            letter 0..3 3 = 1 1 1 3
            """ + four + """
            cut 4 3
            cut 4 0
            turn 1
            letter 0..3 3 = 1 1 3 3
            """ + four + """
            cut 4 3
            cut 4 0
            cut 4 1
            turn 1
            letter 0..3 3 = 1 3 3 3
            """);
    }

    private static void overrunBehindTheOthers() {
        // The one that is delivered, or old, does not count.
        Edges.says("OVERRUN.", """
            reads g3,3,0,20;s3,4;o1,4; = 2
            turn 1 = 0
            cut 4 0
            cut 4 1
            cut 4 2
            turn 1 = 1
            letter 0..1 3 = 2 1
            letter 1 4 = 3
            reads g3,3,0,20;s3,4;o1,4; = 2
            turn 1 = 0
            cut 4 0
            cut 4 1
            cut 4 2
            cut 4 3
            turn 1 = 1
            letter 0..1 3 = 2 3
            reads g2,2,0,11;c0,1;c0,2;s1,0; = 1
            turn 10 = 0
            write 1 2 1 = 1
            turn 1 = 0
            letter 0..1 4 = 3 3
            cut 3 3 = 1
            turn 1 = 0
            letter 0..1 3 = 3 1
            why 0 1 0 = 2
            letter 1 4 = 1
            """);
    }

    private static void putIn() {
        String putIn = "4 Where fewer FLY at a NODE than it has LINKS, the first one of its box";
        // Nodes 0 and 1 have one link, by which two letters go to and fro till they are old.
        Edges.says(putIn, """
            reads g2,2,0,20;c0,2;c1,2;s1,3;s0,3; = 2
            turn 1
            write 1 0 2 = 2
            turn 19
            letter 0..2 3 = 1 1 0
            turn 1
            letter 0..2 3 = 3 3 1
            letter 2 5 = 1
            # One flies there, and there are two links.
            reads g2,2,0,20;s1,2; = 1
            turn 1
            letter 0 4 = 0
            write 1 0 3 = 1
            turn 1
            letter 0..1 4 = 2 1
            """);
        Edges.says(putIn, """
            reads g3,3,0,20;{s4,0;*3} = 3
            count 3 = 0
            turn 1
            count 3 = 1
            box 4 0..2 = 1 2 NONE
            turn 1
            count 3 = 2
            # The third is put in in the TURN in which the first is delivered.
            turn 1 = 1
            count 2..3 = 0 2
            # No link: never.
            reads g2,2,0,20;c0,1;c0,2;s0,3; = 1
            turn 50
            letter 0 3 = 0
            mend 0 1 = 3
            turn 1
            letter 0 3 = 1
            # In the TURN in which another one is delivered there, or lost, there is room.
            reads g2,2,0,20;c0,2;s1,0; = 1
            turn 1
            write 1 0 1 = 1
            turn 1 = 1
            letter 1 4 = 1
            """);
        Edges.says("if any, FLIES (its AGE is 0).", """
            reads g2,2,0,20; = 0
            turn 1
            count 3 = 0
            write 1 0 3 = 0
            turn 1
            letter 0 3 = 1
            letter 0 5 = 1
            """);
    }

    private static void byRank() {
        Edges.says("5 All that FLY are given PORTS.", """
            reads g3,3,0,20;s3,5;o1,7;s5,3;o7,1; = 4
            turn 1
            next 0..3 = 1 2 3 0
            turn 1
            letter 0..3 4 = 5 7 3 1
            """);
        // Letter 0 takes port 2; letter 1 would have that by its taste, but has port 1 as well.
        Edges.says("by RANK each takes, of its NEAR PORTS that nobody has taken, the first by TASTE", """
            reads g3,3,0,20;s3,7;o1,8; = 2
            turn 1
            near 1 0..1 = 2 1
            next 0..1 = 2 1
            bless 1 = 1
            next 0..1 = 0 2
            """);
        Edges.says("of all its NODE's LINKS that nobody has taken the least PORT.", MEETING + """
            next 0..1 = 1 0
            cut 4 0
            next 0..1 = 1 2
            cut 4 2
            next 0..1 = 1 3
            # Nobody has a near port: by rank the least ones.
            cut 4 1
            cut 5 0
            cut 5 2
            mend 4 0
            next 0..1 = 0 3
            """);
        String meeting = """
            turn 1
            at 5 0..1 = 0 1
            next 0..1 = 1 0
            """;
        Edges.says("By WAYS 0, 1, and by WAY 2 at a NODE that has not four LINKS", """
            reads g4,4,0,20;s4,6;o9,6; = 2
            """ + meeting + """
            reads g4,4,1,20;s4,6;o9,6; = 2
            """ + meeting + """
            reads g4,4,2,20;c5,3;c8,0;s4,6;o9,6; = 2
            mend 5 3
            turn 1
            next 0..1 = 1 2
            cut 5 3
            next 0..1 = 1 0
            cut 5 2
            next 0..1 = 1 0
            mend 5 3
            mend 5 2
            next 0..1 = 1 2
            """);
    }

    private static void bySwaps() {
        // By rank letter 1 would have port 0, the least; by swaps it goes to the lower block.
        Edges.says("By WAY 2 at a NODE with four LINKS, by SWAPS", """
            reads g4,4,2,20;s4,6;o9,6; = 2
            turn 1
            next 0..1 = 1 2
            bless 1 = 1
            next 0..1 = 2 1
            turn 1
            letter 0..1 4 = 9 6
            letter 0..1 8 = 0 3
            """);
        // Letter 0 came by 3, letter 1 by 0: two blocks, so both go to the upper one.
        Edges.says("each letter sits in the seat of the PORT by which it came", """
            reads g4,4,2,20;s4,6;o1,6; = 2
            turn 1
            letter 0..1 8 = 3 0
            next 0..1 = 1 0
            # By 3 and by 2: one block.
            reads g4,4,2,20;s4,6;o9,6; = 2
            turn 1
            letter 0..1 8 = 3 2
            next 0..1 = 1 2
            # By 1 and by 0: one block.
            reads g4,4,2,20;c6,1;s6,4;o1,4; = 2
            turn 1
            letter 0..1 8 = 1 0
            next 0..1 = 3 0
            """);
    }

    private static void seats() {
        String least = "one that was just put in in the least seat that is empty.";
        // Nobody is there; then one in seat 1, one in seat 0: the new one sits in that block.
        Edges.says(least, """
            reads g4,4,2,20;s9,13; = 1
            next 0 = 2
            reads g4,4,2,20;s7,10; = 1
            turn 1
            letter 0 8 = 1
            write 1 6 2 = 1
            next 0..1 = 2 0
            undo = 1
            write 1 6 10 = 1
            next 0..1 = 2 0
            reads g4,4,2,20;c2,0;o2,10; = 1
            turn 1
            letter 0 4 = 6
            letter 0 8 = 0
            write 1 6 10 = 1
            next 0..1 = 2 0
            """);
        // One in seat 2, or 3: the new one sits in seat 0, in the other block.
        Edges.says(least, """
            reads g4,4,2,20;o9,1; = 1
            turn 1
            letter 0 4 = 5
            letter 0 8 = 2
            write 1 5 1 = 1
            next 0..1 = 0 1
            reads g4,4,2,20;s4,6; = 1
            turn 1
            letter 0 8 = 3
            write 1 5 6 = 1
            next 0..1 = 1 0
            """);
        // Seats 0 and 1 are taken: seat 2; seats 0, 1, 2: seat 3, in a block with letter 2.
        Edges.says(least, """
            reads g4,4,2,20;c1,0;c6,1;o1,9;s6,4; = 2
            turn 1
            letter 0..1 4 = 5
            letter 0..1 8 = 0 1
            next 0..1 = 2 0
            write 1 5 9 = 2
            next 0..2 = 2 0 3
            reads g4,4,2,20;c1,0;c6,1;o1,9;s6,4;o9,1; = 3
            turn 1
            letter 0..2 8 = 0 1 2
            write 1 5 1 = 3
            next 0..3 = 2 0 1 3
            # Seats 0, 2, 3 are taken: seat 1.
            reads g4,4,2,20;s4,6;o9,6;o1,6; = 3
            turn 1
            letter 0..2 8 = 3 2 0
            write 1 5 6 = 3
            next 0..3 = 1 2 0 3
            """);
    }

    private static void wishes() {
        Edges.says("Its WISH is the first of its NEAR PORTS by TASTE", """
            reads g4,4,2,20;s5,10;o6,9;t9,6;h10,5; = 4
            near 0..3 0 = 1 2 1 0
            next 0..3 = 1 2 1 0
            """);
        // Node 15 is cut off; letters from nodes that have four links.
        String off = "g4,4,2,20;c15,0;c15,1;c15,2;c15,3;";
        Edges.says("if it has none, the PORT that its number leaves by 4.", """
            reads %ss5,15;s6,15;s9,15;s10,15;s1,15;s2,15;s4,15;s8,15;s0,15; = 9
            next 0..8 = 0 1 2 3 0 1 2 3 0
            turn 1
            letter 0..8 6 = 1
            # The greatest numbers there are.
            reads g2,2,2,99;{s0,1;*16} = 16
            22 times write 1 1 0 = 16..37
            turn 50 = 38
            2 times write 1 3 0 = 38..39
            cut 0 0
            cut 0 1
            cut 0 2
            cut 0 3
            node 3 1 = 15
            next 38..39 = 2 NONE
            turn 1
            next 39 = 3
            """.formatted(off));
    }

    private static void blocks() {
        Edges.says("Seats 0 and 1 are one block, 2 and 3 another", """
            reads g4,4,2,20;s4,6;o9,6;o1,6; = 3
            turn 1
            letter 0..2 8 = 3 2 0
            next 0..2 = 1 2 0
            """);
        Edges.says("of the letters in a block the first by RANK goes on to where its WISH is", """
            reads g4,4,2,20;s4,6;o9,6; = 2
            turn 1
            next 0..1 = 1 2
            # By weight: an EXPRESS one is ahead of a lesser number.
            reads g4,4,2,20;o9,6;x4,6; = 2
            turn 1
            next 0..1 = 2 1
            """);
        Edges.says("the upper one (PORTS 0, 1) or the lower one (PORTS 2, 3), the other goes on", """
            reads g4,4,2,20;s4,6;o9,1; = 2
            turn 1
            letter 0..1 8 = 3 2
            next 0..1 = 1 2
            reads g4,4,2,20;o9,1;s4,9; = 2
            turn 1
            letter 0..1 8 = 2 3
            next 0..1 = 0 2
            reads g4,4,2,20;c6,1;s6,4;o1,4; = 2
            turn 1
            letter 0..1 8 = 1 0
            next 0..1 = 3 0
            """);
        // All wish port 1: letters 0 and 2 are first in their blocks, 1 and 3 have to go below.
        Edges.says("the first by RANK takes its WISH, if that is one of both PORTS, else the lesser one", """
            reads g4,4,2,20;s4,6;o9,6;o1,6; = 3
            turn 1
            write 1 5 6 = 3
            next 0..3 = 1 2 0 3
            bless 2 = 1
            next 0..3 = 0 2 1 3
            turn 1
            letter 0..3 4 = 1 9 6 4
            """);
        Edges.says("the other takes the other PORT.", """
            reads g4,4,2,20;s4,6;o1,6; = 2
            turn 1
            next 0..1 = 1 0
            reads g4,4,2,20;c1,0;c6,1;o1,9;s6,9; = 2
            turn 1
            letter 0..1 8 = 0 1
            next 0..1 = 2 0
            # Both wish port 2, from two blocks.
            reads g4,4,2,20;c1,0;o1,9;s4,9; = 2
            turn 1
            letter 0..1 8 = 0 3
            next 0..1 = 2 3
            """);
    }

    private static void goes() {
        Edges.says("6 Each goes by its PORT (there it has come by the PORT across); its AGE is 1 more", """
            reads g3,3,0,20;s3,5;o1,7;s5,3;o7,1; = 4
            turn 1
            letter 0..3 8 = 3 0 1 2
            letter 0..3 5 = 1
            turn 1
            letter 0..3 4 = 5 7 3 1
            letter 0..3 8 = 3 0 1 2
            letter 0..3 5 = 2
            """);
        Edges.says("ASIDES as told.", MEETING + """
            sums 3 = 0
            turn 1
            sums 3 = 1
            letter 1 6 = 1
            """);
        Edges.says("TURN is 1 more.", """
            reads g2,2,0,10; = 0
            sums 0 = 0
            turn 1
            sums 0 = 1
            turn 50
            sums 0 = 51
            """);
    }

    private static void whyOld() {
        String old = """
            reads g2,2,0,10;c0,1;c0,2;s1,0; = 1
            turn 7
            turn 7
            """;
        Edges.says("causes, the outer ones first, each of a kind, with a number", old + """
            why 0 0 0..1 = 1 10
            why 0 1 0..1 = 2 10
            why 0 2 0..1 = NONE
            """);
        Edges.says("1 LOST, the TURN (as it was when that TURN began)", old + """
            why 0 0 0..1 = 1 10
            letter 0 9 = 10
            # Lost in the first TURN of all that it could be.
            reads g2,2,0,10;s0,3; = 1
            turn 1
            cut 1 2
            cut 1 3
            turn 1
            why 0 0 0..1 = 1 1
            """);
        Edges.says("by 2 OLD, its AGE", """
            reads g2,2,0,37;c0,1;c0,2;s1,0; = 1
            turn 50
            why 0 1 0..1 = 2 37
            why 0 0 1 = 37
            # It flew from TURN 5 on.
            reads g2,2,0,10;c0,1;c0,2;c1,2;s1,0; = 1
            turn 5
            mend 1 2
            turn 11
            why 0 0 1 = 15
            why 0 1 1 = 10
            """);
    }

    private static void whyOverrun() {
        Edges.says("or by 3 OVERRUN, the NODE", MEETING + """
            cut 4 0
            cut 4 3
            cut 4 2
            turn 1
            why 1 0 0..1 = 1 1
            why 1 1 0..1 = 3 4
            why 1 3 0..1 = NONE
            """);
        Edges.says("that by 4 CUT, the PORT of the NODE whose LINK was cut last", MEETING + """
            cut 4 0
            cut 4 3
            cut 4 2
            turn 1
            why 1 2 0..1 = 4 2
            # NODE 0 and PORT 0 are numbers like others.
            reads g2,2,1,10;s1,2; = 1
            turn 1
            letter 0 4 = 0
            cut 0 1
            cut 0 2
            cut 0 3
            cut 0 0
            turn 1
            why 0 1 0..1 = 3 0
            why 0 2 0..1 = 4 0
            """);
        Edges.says("(from either end", MEETING + """
            cut 4 0
            cut 4 3
            cut 7 0
            turn 1
            why 1 2 0..1 = 4 2
            """ + MEETING + """
            cut 4 0
            cut 7 0
            cut 3 1
            turn 1
            why 1 2 0..1 = 4 3
            """);
        Edges.says("though it be mended since).", MEETING + """
            cut 4 0
            cut 4 3
            cut 4 2
            cut 4 1
            mend 4 1
            turn 1
            letter 0..1 3 = 1 3
            why 1 2 0..1 = 4 1
            # Mended, or cut elsewhere, when it is lost already: the cause stays.
            mend 4 0
            cut 4 0
            node 4 4 = 0
            why 1 2 0..1 = 4 1
            """);
    }

    private static void acts() {
        Edges.says("a letter is written", """
            reads g2,2,0,10;s0,3; = 1
            write 2 1 2 = 1
            count 5 = 1
            undo = 0
            count 1 = 1
            box 1 0 = NONE
            letter 1 0 = BAD
            write 5 2 1 = 1
            letter 1 0 = 5
            """);
        Edges.says("one becomes GOLDEN, is GOLDEN no more", """
            reads g2,2,0,10;s0,3;s0,1; = 2
            bless 1 = 1
            bless 0 = 2
            count 5 = 2
            unbless 1 = 1
            count 5 = 3
            undo = 2
            golden 0..2 = 1 0 NONE
            undo = 1
            golden 0..1 = 1 NONE
            undo = 0
            golden 0 = NONE
            """);
        Edges.says("a LINK is CUT, mended", """
            reads g2,2,0,10; = 0
            cut 0 1 = 3
            count 5 = 1
            mend 0 1 = 4
            count 5 = 2
            undo = 1
            count 4 = 3
            far 0 1 = 3
            undo = 0
            count 4 = 4
            far 0 1 = 1
            node 0..1 4 = NONE
            undo = STATE
            """);
        Edges.says("a row of TURNS (all of one call)", """
            reads g2,2,0,10;s0,3; = 1
            turn 1
            turn 50
            sums 0 = 51
            undo = 1
            sums 0 = 1
            letter 0 4 = 1
            undo = 0
            sums 0 = 0
            """);
        // No letter is there: a row of TURNS is an ACT all the same.
        Edges.says("also such by which nothing becomes another)", """
            reads g2,2,0,10; = 0
            turn 1 = 0
            count 5 = 1
            undo = 0
            cut 0 1 = 3
            mend 0 1 = 4
            count 5 = 2
            undo = 1
            count 4 = 3
            """);
        Edges.says("each can be undone, the latest first", """
            reads g2,2,0,10;s0,1;s0,1; = 2
            bless 1 = 1
            bless 0 = 2
            cut 0 1 = 3
            undo = 2
            golden 0..2 = 1 0 NONE
            undo = 1
            golden 0..1 = 1 NONE
            bless 0 = 2
            undo = 1
            undo = 0
            golden 0 = NONE
            """);
    }

    private static void actsAreForgotten() {
        Edges.says("ACTS (8 at most are kept, of more the oldest is forgotten", """
            reads g2,2,0,10; = 0
            7 times write 1 0 3 = 0..6
            count 5 = 7
            write 1 0 3 = 7
            count 5 = 8
            write 1 0 3 = 8
            count 5 = 8
            8 times undo = 7 6 5 4 3 2 1 0
            undo = STATE
            count 1 = 1
            # Round and round.
            19 times write 1 0 3 = 1..19
            3 times undo = 7 6 5
            count 1 = 17
            2 times write 1 0 3 = 17..18
            count 5 = 7
            7 times undo = 6 5 4 3 2 1 0
            undo = STATE
            count 1 = 12
            """);
    }
}
