/** "What it is" and the head of "Terms": numbers, fractions, sets, refusals. */
final class EdgesOfTerms {
    /** Letters that wait, fly and are delivered, golden ones, acts, both images, a tape begun. */
    private static final String RICH = """
        reads g2,2,0,10;c0,1;s0,3;x1,2;h3,0;s2,3; = 4
        bless 1 = 1
        image 0 = 1
        turn 2 = 1
        bless 0 = 2
        cut 3 0 = 2
        image 1 = 1
        write 4 2 1 = 4
        tape g2,
        mark
        """;

    /** A tape of 140 bytes, 40 letters, four of them golden. */
    private static final String FULL = """
        reads g2,2,0,10;{s0,1;*16} = 16
        24 times write 2 3 1 = 16..39
        bless 0 = 1
        bless 5 = 2
        bless 16 = 3
        bless 39 = 4
        140 times feed 103 = 1..140
        mark
        """;

    private EdgesOfTerms() {
    }

    static void all() {
        Edges.part("What it is");
        calls();
        Edges.part("Terms");
        numbers();
        refusals();
        badChangesNothing();
        badOfAllElseChangesNothing();
        stateChangesNothing();
        fullChangesNothing();
    }

    private static void calls() {
        // 10 bytes, net(), 500 TURNS or 500 acts: what is asked then is the call number 512.
        Edges.says("An object is used for at most 512 calls after it has been made", """
            new
            tape g2,2,0,10;
            net = 0
            500 times turn 50 = 0
            sums 0 = 25000
            new
            tape g2,2,0,10;
            net = 0
            500 times turn 1 = 0
            undo = 7
            new
            512 times fault = 0
            """);
    }

    private static void numbers() {
        Edges.says("Numbers go from 0 on.", """
            reads g2,2,0,10;s0,1; = 1
            letter 0 1 = 0
            letter -1 1 = BAD
            letter 1 1 = BAD
            node 0 1 = 6
            node 3 1 = 9
            node -1 1 = BAD
            node 4 1 = BAD
            box 0 0 = 0
            sums 0 = 0
            """);
        // AGE 1, 2, 3 of a CHEAP one, by 2.
        Edges.says("All that is divided is cut towards 0", """
            reads g3,3,0,20;h0,8; = 1
            turn 1
            letter 0 5 = 1
            letter 0 7 = 0
            turn 1
            letter 0 7 = 1
            turn 1
            letter 0 5 = 3
            letter 0 7 = 1
            """);
        // It comes, but if both links of node 0 fail: 75, 96, 19 of 100, and never.
        Edges.says("but fractions, told as two numbers in lowest terms", """
            reads g2,2,0,10;s0,1; = 1
            odds 0 0 5 0..1 = 3 4
            odds 0 0 2 0..1 = 24 25
            odds 0 0 9 0..1 = 19 100
            odds 0 0 0 0..1 = 1 1
            """);
        Edges.says("(0 is 0 by 1)", """
            reads g2,2,0,10;s0,1; = 1
            odds 0 0 10 0..1 = 0 1
            """);
        Edges.says("Sets are bits.", """
            reads g3,3,0,10; = 0
            node 0..8 1 = 6 14 12 7 15 13 3 11 9
            """);
    }

    private static void refusals() {
        Edges.says("Refusals are answers, the first of these that fits", FULL + """
            feed 255 = FULL
            feed 256 = BAD
            write 1 0 1 = FULL
            write 1 0 0 = BAD
            bless 1 = FULL
            bless 0 = STATE
            bless 40 = BAD
            worst 0 1 0 = FULL
            worst 0 6 0 = BAD
            worst 0 1 2 = BAD
            """);
        Edges.says("but as told", """
            new
            write 0 -1 -1 = STATE
            turn 51 = STATE
            rank -1 = STATE
            golden -1 = STATE
            log -1 = STATE
            sums 6 = STATE
            ends 4 = STATE
            bridges 2 = STATE
            drawn 11 0 3 = STATE
            """);
        Edges.says("BAD (a number is not as told; there is no such thing)", """
            reads g2,2,0,10;s0,1; = 1
            letter 0 11 = BAD
            letter 1 0 = BAD
            cut 0 4 = BAD
            cut 0 0 = BAD
            new
            letter 0 0 = BAD
            image 2 = BAD
            restore 2 = BAD
            """);
        Edges.says("STATE (as told)", """
            new
            image 0 = STATE
            restore 0 = STATE
            undo = STATE
            """);
        Edges.says("FULL (as told)", FULL + """
            feed 0 = FULL
            write 5 3 2 = FULL
            bless 2 = FULL
            worst 3 5 1 = FULL
            """);
    }

    private static void badChangesNothing() {
        Edges.says("What is refused changes nothing.", RICH + """
            feed -1 = BAD
            feed 256 = BAD
            feed MIN = BAD
            feed MAX = BAD
            write 0 0 1 = BAD
            write 6 0 1 = BAD
            write 1 -1 1 = BAD
            write 1 4 1 = BAD
            write 1 0 -1 = BAD
            write 1 0 4 = BAD
            write 1 2 2 = BAD
            bless -1 = BAD
            bless 5 = BAD
            unbless -1 = BAD
            unbless 5 = BAD
            cut -1 0 = BAD
            cut 4 0 = BAD
            cut 0 -1 = BAD
            cut 0 4 = BAD
            cut 0 0 = BAD
            mend -1 0 = BAD
            mend 4 0 = BAD
            mend 0 -1 = BAD
            mend 0 4 = BAD
            mend 0 0 = BAD
            turn 0 = BAD
            turn 51 = BAD
            turn -1 = BAD
            image -1 = BAD
            image 2 = BAD
            restore -1 = BAD
            restore 2 = BAD
            unchanged
            """);
    }

    private static void badOfAllElseChangesNothing() {
        Edges.says("What is refused changes nothing.", RICH + """
            letter 5 0 = BAD
            letter 0 11 = BAD
            node 4 0 = BAD
            node 0 5 = BAD
            at 4 0 = BAD
            at 0 -1 = BAD
            box 4 0 = BAD
            box 0 -1 = BAD
            rank -1 = BAD
            golden -1 = BAD
            log -1 = BAD
            sums 6 = BAD
            far 0 4 = BAD
            near 5 0 = BAD
            near 0 4 = BAD
            why 5 0 0 = BAD
            why 0 0 2 = BAD
            next 5 = BAD
            ends 4 = BAD
            arrives 5 = BAD
            worst 4 1 0 = BAD
            worst 0 6 0 = BAD
            bridges 2 = BAD
            odds 5 0 5 0 = BAD
            odds 0 0 11 0 = BAD
            drawn 11 1 0 = BAD
            drawn 1 0 0 = BAD
            count 7 = BAD
            unchanged
            """);
    }

    private static void stateChangesNothing() {
        Edges.says("What is refused changes nothing.", RICH + """
            bless 0 = STATE
            bless 3 = STATE
            unbless 2 = STATE
            unbless 3 = STATE
            cut 0 1 = STATE
            cut 1 3 = STATE
            mend 0 2 = STATE
            mend 2 0 = STATE
            unchanged
            # No ACT, no IMAGE.
            reads g2,2,0,10;s0,3; = 1
            mark
            undo = STATE
            restore 0 = STATE
            restore 1 = STATE
            unchanged
            # No NET.
            new
            mark
            undo = STATE
            write 1 0 1 = STATE
            turn 1 = STATE
            rank 0 = STATE
            golden 0 = STATE
            log 0 = STATE
            sums 0 = STATE
            ends 0 = STATE
            help = STATE
            bridges 0 = STATE
            drawn 1 1 0 = STATE
            image 0 = STATE
            restore 0 = STATE
            unchanged
            """);
    }

    private static void fullChangesNothing() {
        Edges.says("What is refused changes nothing.", FULL + """
            feed 59 = FULL
            write 1 0 1 = FULL
            bless 1 = FULL
            worst 0 1 0 = FULL
            unchanged
            """);
    }
}
