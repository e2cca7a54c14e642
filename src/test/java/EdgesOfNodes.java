/** "Terms" 2: nodes and links, far and near, letters, kinds, golden ones, rank. */
final class EdgesOfNodes {
    /** Both fly to node 4 in one TURN, on their way to node 5. */
    private static final String MEETING = """
        reads g3,3,0,20;s3,5;o1,5; = 2
        turn 1 = 0
        at 4 0..2 = 0 1 NONE
        """;

    private EdgesOfNodes() {
    }

    static void all() {
        Edges.part("Terms 2");
        rows();
        rings();
        links();
        far();
        near();
        letters();
        weights();
        tastes();
        turningTastes();
        golden();
        theGoldenOne();
        ranks();
    }

    private static void rows() {
        Edges.says("NODES lie in H rows of W, NODE y times W and x at x, y.", """
            reads g4,2,0,10; = 0
            count 0 = 8
            far 3 4 = 4
            far 3 7 = 1
            reads g2,4,0,10; = 0
            count 0 = 8
            far 3 4 = 2
            far 5 7 = 1
            reads g3,4,0,10; = 0
            count 0 = 12
            far 0 11 = 5
            """);
        Edges.says("PORTS of a NODE: 0 to y less 1, 1 to x and 1, 2 to y and 1, 3 to x less 1.", """
            reads g3,3,0,20;s4,1;s4,5;s4,7;s4,3; = 4
            near 0..3 0 = 0 1 2 3
            near 0..3 1 = NONE
            """);
        Edges.says("By WAY 0 (a GRID) a PORT that goes out of the rows has no LINK", """
            reads g3,3,0,10; = 0
            node 0..8 1 = 6 14 12 7 15 13 3 11 9
            far 0 2 = 2
            far 0 6 = 2
            cut 0 0 = BAD
            cut 0 3 = BAD
            cut 2 0 = BAD
            cut 2 1 = BAD
            cut 6 2 = BAD
            cut 6 3 = BAD
            cut 8 1 = BAD
            cut 8 2 = BAD
            reads g2,2,0,10; = 0
            node 0..3 1 = 6 12 3 9
            reads g4,4,0,10; = 0
            node 0..15 1 = 6 14 14 12 7 15 15 13 7 15 15 13 3 11 11 9
            """);
    }

    private static void rings() {
        String wraps = """
            node 0..11 1 = 15
            count 4 = 24
            far 0 3 = 1
            far 3 0 = 1
            far 4 7 = 1
            far 0 8 = 1
            far 8 0 = 1
            far 3 11 = 1
            far 0 6 = 3
            near 0..3 0 = 3 1 0 2
            near 0..3 1 = NONE
            turn 1
            letter 0..3 4 = 3 0 9 0
            letter 0..3 8 = 1 3 2 0
            letter 0..3 6 = 0
            """;
        // From each edge of the rows to the one across.
        Edges.says("by 1, 2 (RINGS) it goes to the other end of its row or column.",
                "reads g4,3,1,20;s0,3;s3,0;s1,9;s8,0; = 4\n" + wraps
                + "reads g4,3,2,20;s0,3;s3,0;s1,9;s8,0; = 4\n" + wraps);
        Edges.says("by 1, 2 (RINGS) it goes to the other end of its row or column.", """
            reads g2,2,1,20;s0,1;s0,2;s0,3; = 3
            node 0..3 1 = 15
            count 4 = 8
            far 0 1..3 = 1 1 2
            near 0 0..2 = 1 3 NONE
            near 1 0..2 = 0 2 NONE
            near 2 0..3 = 1 3 0 2
            reads g2,4,2,20; = 0
            far 0 6 = 1
            far 0 4 = 2
            count 4 = 16
            reads g3,3,1,20; = 0
            far 0 1..8 = 1 1 1 2 2 1 2 2
            """);
    }

    private static void links() {
        // By ports 0, 1, 2, 3 of node 4, each but one at a time.
        Edges.says("(there the PORT across: 0 and 2, 1 and 3)", """
            reads g3,3,0,20;s4,1;s4,5;s4,7;s4,3; = 4
            turn 1
            letter 0 4 = 1
            letter 0 8 = 2
            turn 1
            letter 1 4 = 5
            letter 1 8 = 3
            turn 1
            letter 2 4 = 7
            letter 2 8 = 0
            turn 1
            letter 3 4 = 3
            letter 3 8 = 1
            # Nodes 0 and 1 have two links; with one cut, the letter goes by the other.
            reads g2,2,1,20;c0,1;s0,1; = 1
            node 0..1 1 = 13 7
            turn 1
            letter 0 4 = 1
            letter 0 8 = 1
            """);
        Edges.says("A LINK is one of two PORTS, of a NODE and of that to which it goes", """
            reads g3,2,0,20; = 0
            count 4 = 7
            cut 1 3 = 6
            node 0..1 1 = 4 6
            cut 0 1 = STATE
            mend 0 1 = 7
            mend 1 3 = STATE
            """);
        Edges.says("it goes both ways, one letter each way in a TURN.", """
            reads g2,2,0,20;c0,2;c1,2;s0,1;s0,1;s1,0;s1,0; = 4
            turn 1
            letter 0..3 4 = 1 0 0 1
            letter 0..3 3 = 1 0 1 0
            turn 1 = 2
            letter 0..3 4 = NONE 1 NONE 0
            """);
        Edges.says("A LINK that is CUT is none.", """
            reads g2,2,0,20;s0,1; = 1
            cut 0 1 = 3
            count 4 = 3
            node 0..1 1 = 4 4
            far 0 1 = 3
            near 0 0..1 = 2 NONE
            next 0 = 2
            turn 1
            letter 0 4 = 2
            reads g2,2,0,20;c0,1;s0,1; = 1
            far 0 1 = 3
            next 0 = 2
            """);
    }

    private static void far() {
        Edges.says("FAR from a NODE to another one: the fewest LINKS on a way", """
            reads g4,4,0,10; = 0
            far 0 0 = 0
            far 0 15 = 6
            far 15 0 = 6
            far 3 12 = 6
            far 5 10 = 2
            reads g4,4,1,10; = 0
            far 0 10 = 4
            far 0 15 = 2
            # The longest way of all, like a snake.
            reads g4,4,0,10;c0,2;c1,2;c2,2;c5,2;c6,2;c7,2;c8,2;c9,2;c10,2; = 0
            far 0 12 = 15
            far 12 0 = 15
            """);
        Edges.says("NONE: there is no way.", """
            reads g2,2,0,10;c0,1;c0,2; = 0
            far 0 1..3 = NONE
            far 1..3 0 = NONE
            far 0 0 = 0
            far 1 2 = 2
            cut 1 2 = 1
            far 1 2 = NONE
            far 2 3 = 1
            mend 0 1 = 2
            far 0 1 = 1
            far 0 2 = NONE
            """);
    }

    private static void near() {
        Edges.says("those with a LINK to a NODE that is less FAR from its TO", """
            reads g3,3,0,20;s4,8;s4,2;s4,0;s4,5; = 4
            near 0 0..3 = 1 2 NONE NONE
            near 1 0..3 = 1 0 NONE NONE
            near 2 0..3 = 3 0 NONE NONE
            near 3 0..3 = 1 NONE NONE NONE
            # A node that is as far is not less far: a ring of three.
            reads g3,3,1,20;s0,1; = 1
            near 0 0..3 = 1 NONE NONE NONE
            """);
        // Letters 0 and 1 come to 4 together; one of them is at its TO yet, and turned aside.
        Edges.says("(at its TO: none", """
            reads g3,3,0,20;s3,4;o1,4; = 2
            turn 1 = 0
            letter 1 4 = 4
            near 1 0..3 = NONE
            next 1 = 0
            turn 1 = 1
            letter 1 4 = 1
            letter 1 6 = 1
            """);
        Edges.says("where there is no way to that: none).", """
            reads g3,3,0,20;c8,0;c8,3;s4,8;s8,4; = 2
            near 0 0..3 = NONE
            near 1 0..3 = NONE
            next 0 = 0
            next 1 = NONE
            """);
    }

    private static void letters() {
        Edges.says("LETTERS have numbers as they are written (0 on, 40 at most of a NET).", """
            reads g2,2,0,10;{s0,1;*16} = 16
            24 times write 1 3 1 = 16..39
            write 1 3 1 = FULL
            count 1 = 40
            letter 39 1 = 3
            letter 40 1 = BAD
            # Those that have come take room yet.
            turn 50 = 40
            write 1 3 1 = FULL
            tape g2,2,0,10;
            net = 0
            write 1 3 1 = 0
            """);
        // Node 15 is cut off, so nobody comes there: all 40 fly at once, and are lost at last.
        for (int way = 1; way <= 2; way++) {
            Edges.says("(0 on, 40 at most of a NET)", """
                reads g4,4,%d,99;c15,0;c15,1;c15,2;c15,3; = 0
                write 1 0..14 15 = 0..14
                write 1 0..14 15 = 15..29
                write 1 0..9 15 = 30..39
                turn 50 = 0
                count 1..3 = 40 0 40
                rank 0 = 0
                rank 40 = NONE
                2 times turn 50 = 0
                sums 2 = 40
                """.formatted(way));
        }
        Edges.says("One WAITS in the box of its FROM (behind those that are there)", """
            reads g2,2,0,10;s0,1;s3,1;s0,1; = 3
            write 1 0 1 = 3
            write 1 3 1 = 4
            box 0 0..3 = 0 2 3 NONE
            box 3 0..2 = 1 4 NONE
            turn 1
            box 0 0..2 = 2 3 NONE
            write 1 0 1 = 5
            box 0 0..3 = 2 3 5 NONE
            """);
        Edges.says("then FLIES, then is DELIVERED or LOST.", """
            reads g2,2,0,10;c2,0;c2,1;s0,1;s0,2; = 2
            letter 0..1 3 = 0 0
            turn 1
            letter 0..1 3 = 1 0
            turn 1
            letter 0..1 3 = 2 1
            turn 9
            letter 0..1 3 = 2 1
            turn 1
            letter 0..1 3 = 2 3
            turn 50
            letter 0..1 3 = 2 3
            """);
        Edges.says("AGE: TURNS that it flew.", """
            reads g2,2,0,10;s0,1;s0,1;s0,1; = 3
            turn 2
            letter 0..2 5 = 1 1 0
            turn 50
            letter 0..2 5 = 1 1 1
            """);
        Edges.says("ASIDES: those of them by which it did not come less FAR to its TO.", MEETING + """
            letter 0..1 6 = 0 0
            turn 1
            letter 0..1 6 = 0 1
            turn 9
            letter 0..1 6 = 0 1
            # No way at all: it comes less far by none.
            reads g2,2,0,20;c2,0;c2,1;s0,2; = 1
            turn 7
            letter 0 6 = 7
            """);
    }

    private static void weights() {
        Edges.says("WEIGHT: AGE; of an EXPRESS one twice that, of a CHEAP one AGE by 2.", """
            reads g4,4,0,20;s0,15;x3,12;t12,3;o15,0;h4,11; = 5
            letter 0..4 7 = 0
            turn 1
            letter 0..4 7 = 1 2 1 1 0
            turn 1
            letter 0..4 7 = 2 4 2 2 1
            turn 1
            letter 0..4 5 = 3
            letter 0..4 7 = 3 6 3 3 1
            """);
        // The heaviest there can be: AGE 99, twice.
        Edges.says("of an EXPRESS one twice that", """
            reads g2,2,0,99;c0,1;c0,2;x1,0;h3,0;s3,0; = 3
            turn 50
            turn 49
            letter 0..1 5 = 99
            letter 0..1 7 = 198 49
            rank 0..3 = 0 2 1 NONE
            """);
    }

    private static void tastes() {
        Edges.says("KINDS: 0 LETTER;", """
            reads g2,2,0,10; = 0
            write 0 0 1 = BAD
            write 1 0 1 = 0
            """);
        Edges.says("1 SEALED, a LETTER; 2 EXPRESS, a SEALED one; 3 TURNING, a SEALED one", """
            reads g4,4,1,20;s0,10;x0,10;t0,10; = 3
            near 0..2 0 = 1
            near 0..2 1 = 3
            near 0..2 2 = 0
            near 0..2 3 = 2
            """);
        Edges.says("4 OPEN, a LETTER; 5 CHEAP, an OPEN one.", """
            reads g4,4,1,20;o0,10;h0,10; = 2
            near 0..1 0 = 0
            near 0..1 1 = 2
            near 0..1 2 = 1
            near 0..1 3 = 3
            """);
        Edges.says("TASTE (an order of PORTS): of SEALED ones 1, 3, 0, 2; of OPEN ones 0, 2, 1, 3", """
            reads g4,4,1,20;s0,10;o0,10; = 2
            near 0 0..3 = 1 3 0 2
            near 1 0..3 = 0 2 1 3
            next 0 = 1
            turn 1
            next 1 = 0
            """);
    }

    /** Links are cut till the letter has gone by the port that is left, then mended. */
    private static void turningTastes() {
        Edges.says("that came by PORT q of the NODE: q and 1, q and 2, q and 3 (each left by 4), then q", """
            reads g2,2,1,20;c0,1;c0,3;c0,0;t0,1; = 1
            turn 1
            letter 0 8 = 0
            mend 0 1
            mend 0 3
            mend 0 0
            near 0 0..3 = 1 2 3 0
            reads g2,2,1,20;c0,0;c0,2;c0,1;t0,2; = 1
            turn 1
            letter 0 8 = 1
            mend 0 0
            mend 0 2
            mend 0 1
            near 0 0..3 = 2 3 0 1
            reads g2,2,1,20;c0,1;c0,3;t0,1; = 1
            turn 1
            letter 0 8 = 2
            mend 0 1
            mend 0 3
            near 0 0..3 = 3 0 1 2
            reads g2,2,1,20;c0,0;c0,2;t0,2; = 1
            turn 1
            letter 0 8 = 3
            mend 0 0
            mend 0 2
            near 0 0..3 = 0 1 2 3
            next 0 = 0
            """);
        Edges.says("of one that was just put in as of SEALED ones.", """
            reads g2,2,1,20;t0,3;s0,3; = 2
            near 0 0..3 = 1 3 0 2
            near 1 0..3 = 1 3 0 2
            next 0 = 1
            turn 1
            letter 0 8 = 3
            near 0 0..2 = 0 2 NONE
            """);
    }

    private static void golden() {
        Edges.says("GOLDEN ones: a list, 4 at most", """
            reads g2,2,0,10;{s0,1;*6} = 6
            bless 5 = 1
            bless 0 = 2
            bless 3 = 3
            bless 1 = 4
            bless 2 = FULL
            golden 0..4 = 5 0 3 1 NONE
            unbless 0 = 3
            bless 2 = 4
            bless 0 = FULL
            golden 0..4 = 5 3 1 2 NONE
            """);
        Edges.says("what is DELIVERED, LOST is none any more.", """
            reads g2,2,0,10;c2,0;c2,1;s0,1;s3,2;s3,2;s1,0; = 4
            bless 0 = 1
            bless 1 = 2
            bless 2 = 3
            bless 3 = 4
            turn 2 = 2
            golden 0..2 = 1 2 NONE
            letter 0..3 10 = 0 1 1 0
            turn 9
            letter 1 3 = 3
            golden 0..1 = 2 NONE
            letter 1 10 = 0
            bless 1 = STATE
            turn 1
            golden 0 = NONE
            # Of an OVERRUN one, too.
            reads g2,2,0,10;s0,3; = 1
            bless 0 = 1
            turn 1
            cut 1 2 = 3
            cut 1 3 = 2
            turn 1
            why 0 1 0 = 3
            golden 0 = NONE
            """);
    }

    private static void theGoldenOne() {
        Edges.says("is the first of the list that FLIES as the TURN begins", MEETING + """
            next 0..1 = 1 0
            bless 1 = 1
            next 0..1 = 0 1
            bless 0 = 2
            next 0..1 = 0 1
            unbless 1 = 1
            next 0..1 = 1 0
            # The first of the list waits; it is put in in this TURN, but did not fly as it began.
            reads g3,3,0,20;s3,5;o1,5; = 2
            turn 1
            write 1 4 5 = 2
            bless 2 = 1
            next 0..2 = 1 0 2
            bless 1 = 2
            rank 0..2 = 1 0 NONE
            next 0..2 = 0 1 2
            # The golden one is delivered: the next of the list is not yet the golden one.
            reads g3,3,0,20;s3,5;o1,5;s5,4; = 3
            turn 1
            bless 2 = 1
            bless 1 = 2
            rank 0..3 = 2 0 1 NONE
            next 0..2 = 1 0 NONE
            turn 1 = 1
            rank 0..2 = 1 0 NONE
            """);
        Edges.says("if any.", """
            reads g3,3,0,20;s3,5;o1,5;s4,0; = 3
            bless 2 = 1
            rank 0 = NONE
            turn 1
            unbless 2 = 0
            rank 0..3 = 0 1 2 NONE
            """);
    }

    private static void ranks() {
        Edges.says("RANK: THE GOLDEN ONE is first", """
            reads g4,4,0,20;h0,15;s3,12;x12,3;s15,0;s15,0; = 5
            turn 2
            bless 4 = 1
            rank 0..5 = 4 2 1 3 0 NONE
            bless 0 = 2
            rank 0..5 = 4 2 1 3 0 NONE
            unbless 4 = 1
            rank 0..5 = 0 2 1 3 4 NONE
            """);
        Edges.says("then those of more WEIGHT", """
            reads g4,4,0,20;h0,15;s3,12;x12,3; = 3
            turn 2
            letter 0..2 7 = 1 2 4
            rank 0..3 = 2 1 0 NONE
            """);
        Edges.says("of several the lesser number.", """
            reads g4,4,0,20;h0,15;s3,12;s12,3;s15,0;s15,0; = 5
            turn 2
            letter 0..4 7 = 1 2 2 2 1
            rank 0..5 = 1 2 3 0 4 NONE
            """);
        // The greatest number with a little more weight is ahead of the least one.
        Edges.says("then those of more WEIGHT", """
            reads g4,4,0,20;c0,1;c0,2;h0,15; = 1
            38 times write 1 14 13 = 1..38
            turn 50 = 38
            mend 0 1
            mend 0 2
            write 1 15 0 = 39
            turn 2
            letter 0 7 = 1
            letter 39 7 = 2
            rank 0..2 = 39 0 NONE
            """);
        Edges.says("(Asked between two TURNS: as the next one will have it.)", MEETING + """
            rank 0..1 = 0 1
            bless 1 = 1
            rank 0..1 = 1 0
            at 4 0..1 = 1 0
            unbless 1 = 0
            at 4 0..1 = 0 1
            """);
    }
}
