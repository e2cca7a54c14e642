/** "Terms" 4: what is foretold, and that it changes nothing. */
final class EdgesOfLetGo {
    /**
     * Nodes 0 and 1 have one link and no way elsewhere: two letters go to and fro till AGE 99, then
     * the next two are put in, in TURNS 0, 1, 100, 101, 200, 201, 300; lost 99 TURNS behind that.
     */
    private static final String SLOW = "g2,2,0,99;c0,2;c1,2;";

    private EdgesOfLetGo() {
    }

    static void all() {
        Edges.part("Terms 4");
        nothingChanges();
        letGo();
        worst();
        help();
        odds();
        years();
        drawnLetters();
        drawnKinds();
    }

    private static void nothingChanges() {
        Edges.says("FORETOLD (nothing changes).", """
            reads g3,3,1,20;s0,8;x0,8;t0,8;o4,0;h4,0; = 5
            bless 2 = 1
            image 0 = 1
            turn 2
            cut 0 1
            tape g3
            mark
            next 0..4
            ends 0..3
            arrives 0..4
            worst 0 2 0..1
            help
            bridges 0..1
            odds 0 4 5 0..1
            odds 0 0 10 0..1
            drawn 10 12345 0..2
            count 0..6
            unchanged
            # Four golden ones, and a net of 39 letters, in which one more would be foretold.
            reads g2,2,0,10;{s0,1;*16} = 16
            23 times write 2 3 0 = 16..38
            bless 3 = 1
            bless 1 = 2
            bless 20 = 3
            bless 0 = 4
            mark
            help
            worst 0 1 0..1
            drawn 10 7 0..2
            ends 0..3
            unchanged
            """);
    }

    private static void letGo() {
        Edges.says("LET GO: TURN by TURN, nothing new written, till no letter WAITS or FLIES", """
            reads g2,2,0,10; = 0
            ends 0 = 0
            reads g2,2,0,10;s0,1; = 1
            ends 0 = 2
            turn 1
            ends 0 = 1
            turn 1 = 1
            ends 0 = 0
            """);
        // The fifth letter is lost in TURN 299, the 300th; a sixth would be in TURN 300.
        Edges.says("300 TURNS at most.", """
            reads %1$s{s0,3;*5} = 5
            ends 0..3 = 300 4 5 99
            write 1 0 3 = 5
            ends 0..3 = NONE
            turn 1
            ends 0..3 = 300 5 6 99
            # The seventh comes in TURN 301.
            reads %1$s{s0,3;*6}s0,1; = 7
            arrives 6 = NONE
            odds 6 0 0 0..1 = 0 1
            turn 1
            arrives 6 = NONE
            ends 0..3 = NONE
            odds 6 0 0 0..1 = 0 1
            turn 1
            arrives 6 = 301
            ends 0..3 = 300 6 6 99
            odds 6 0 0 0..1 = 1 1
            turn 1
            arrives 6 = 301
            ends 0 = 299
            """.formatted(SLOW));
    }

    private static void worst() {
        Edges.says("a letter more of a KIND from there to each other NODE, one at a time", """
            reads g2,2,0,10; = 0
            worst 0 1 0..1 = 2 3
            worst 3 1 0..1 = 2 0
            # Behind one that waits.
            write 1 0 3 = 0
            worst 0 1 0..1 = 3 3
            worst 3 1 0..1 = 2 0
            """);
        // With a link cut; with a letter that takes the way to 5.
        Edges.says("(the net as it is else)", """
            reads g2,2,0,10;c0,1; = 0
            worst 0 1 0..1 = 3 1
            turn 7
            worst 0 5 0..1 = 3 1
            cut 0 2
            worst 1 1 0..1 = 10 0
            reads g3,3,0,20;s3,5; = 1
            turn 1
            worst 4 1 0..1 = 3 5
            undo = 0
            worst 4 1 0..1 = 2 0
            """);
        Edges.says("till it is DELIVERED or LOST (as the TURN begins in which it is", """
            reads g2,2,0,10;c1,2;c1,3;c2,1; = 0
            # From 0 to 2 in TURN 1; to 1 and to 3 it grows old.
            worst 0 1 0..1 = 10 1
            mend 1 3
            mend 1 2
            worst 0 1 0..1 = 2 3
            turn 50
            worst 0 1 0..1 = 2 3
            """);
        Edges.says("300, if it is neither by then)", """
            reads g2,2,0,10;c0,1;c0,2; = 0
            worst 0 1 0..1 = 300 1
            # One more is lost in TURN 299, then in TURN 300.
            reads %1$s{s0,3;*4} = 4
            worst 0 1 0..1 = 299 2
            write 1 0 3 = 4
            worst 0 1 0..1 = 300 2
            turn 1
            worst 0 1 0..1 = 299 2
            # One more is delivered in TURN 301, or grows old far behind that.
            reads %1$s{s0,3;*6} = 6
            worst 0 1 0..1 = 300 1
            turn 2
            worst 0 1 0..1 = 300 2
            turn 1
            worst 0 1 0..1 = 300 2
            """.formatted(SLOW));
    }

    private static void help() {
        Edges.says("HELP: each letter that WAITS or FLIES, put first of all GOLDEN ones", """
            reads g4,3,0,20;s4,6;o1,7; = 2
            ends 0 = 6
            help = 1
            bless 0 = 1
            help = 1
            bless 1 = 2
            ends 0 = 6
            help = 1
            golden 0..2 = 0 1 NONE
            turn 1
            help = 1
            turn 9
            help = NONE
            """);
        // First 1, then 2: 4 TURNS; with 1 alone it would be 5, and as it is 2 is first.
        Edges.says("put first of all GOLDEN ones", """
            reads g3,2,1,20;h0,5;s0,5;h3,2; = 3
            bless 2 = 1
            help = 1
            reads g3,2,1,20;h0,5;s0,5;h3,2; = 3
            bless 1 = 1
            ends 0 = 5
            bless 2 = 2
            ends 0 = 4
            """);
        Edges.says("(there may be 5 then)", """
            reads g4,3,0,20;s4,6;o1,7;s11,10;s11,10;s11,10; = 5
            bless 0 = 1
            bless 2 = 2
            bless 3 = 3
            bless 4 = 4
            ends 0 = 6
            help = 1
            golden 0..4 = 0 2 3 4 NONE
            """);
        Edges.says(": LET GO. ODDS", """
            reads %1$s{s0,3;*5} = 5
            help = 0
            write 1 0 3 = 5
            help = NONE
            turn 1
            help = 0
            """.formatted(SLOW));
    }

    private static void odds() {
        Edges.says("ODDS by p of 10 (0 to 10)", """
            reads g2,2,0,10;s0,1; = 1
            odds 0 0 -1 0 = BAD
            odds 0 0 0 0..1 = 1 1
            odds 0 0 1 0..1 = 99 100
            odds 0 0 9 0..1 = 19 100
            odds 0 0 10 0..1 = 0 1
            odds 0 0 11 0 = BAD
            """);
        // Of four links, of two, of one, of none.
        Edges.says("each LINK of a NODE is CUT in p of 10 cases, apart, ahead of all", """
            reads g4,4,2,20;s5,6; = 1
            odds 0 5 7 0..1 = 7599 10000
            reads g2,2,0,10;s0,1; = 1
            odds 0 0 3 0..1 = 91 100
            odds 0 3 9 0..1 = 1 1
            cut 0 1
            odds 0 0 4 0..1 = 3 5
            odds 0 3 4 0..1 = 9 25
            cut 0 2
            odds 0 0 4 0..1 = 0 1
            odds 0 0 0 0..1 = 0 1
            reads g2,2,0,10;c3,0;c3,3;s0,1; = 1
            odds 0 3 10 0..1 = 1 1
            # One that flies at a node all whose links fail is overrun.
            reads g3,3,0,20;s3,5; = 1
            turn 1
            odds 0 4 5 0..1 = 15 16
            """);
        Edges.says("how likely a letter is DELIVERED, LET GO: a fraction.", """
            reads g2,2,0,10;c2,0;c2,1;s0,1;s0,2;s2,0; = 3
            odds 0 2 5 0..1 = 1 1
            odds 1 1 0 0..1 = 0 1
            odds 2 1 0 0..1 = 0 1
            turn 50 = 1
            # Delivered, and lost, already.
            odds 0 0 10 0..1 = 1 1
            odds 1 0 0 0..1 = 0 1
            """);
    }

    private static void years() {
        Edges.says("YEARS of n times (0 to 10) by a SEED (X at first)", """
            reads g4,4,0,10; = 0
            drawn -1 1 0 = BAD
            drawn 0 1 0..2 = 0
            drawn 1 1 0..2 = 4 0 0
            drawn 10 1 1 = 0
            drawn 11 1 0 = BAD
            # The TURN of each year is one of those that are let go.
            reads g2,2,0,10;s0,3; = 1
            drawn 0 999999 0 = 3
            """);
        // X is 16807: from 7 to 13; 282475249: from 1 to 7; 1622650073: from 9 to 6.
        Edges.says("ahead of each X becomes the rest of (X times 16807) by 2147483647", """
            reads g4,4,0,10; = 0
            drawn 1 1 0 = 4
            drawn 2 1 0 = 3
            drawn 3 1 0 = 2
            reads g4,4,0,10;c6,0;c6,1;c6,2;c6,3; = 0
            drawn 2 1 0..2 = 3 0 0
            drawn 3 1 0..2 = 10 1 10
            # 999999 times 16807 is beyond 2147483647 at once: X is 1774597664, from 0 to 1.
            reads g4,4,0,10; = 0
            drawn 1 999999 0 = 1
            cut 1 1
            cut 1 2
            drawn 1 999999 0 = 1
            cut 1 3
            drawn 1 999999 0..2 = 10 1 10
            cut 0 2
            drawn 1 999999 0..2 = NONE 0 0
            """);
        Edges.says("a TURN. Behind all: LET GO.", """
            reads g4,4,0,10;s0,15; = 1
            ends 0 = 7
            drawn 0 1 0 = 7
            drawn 1 1 0 = 6
            """);
    }

    private static void drawnLetters() {
        // 39 letters: the first year's one is written, X is 67228, from 0 to 1; no other one.
        Edges.says("a letter is written (if there is room)", """
            reads g2,2,0,10;{s0,1;*16} = 16
            23 times write 1 3 2 = 16..38
            turn 50 = 39
            sums 3 = 0
            cut 0 1
            cut 0 2
            drawn 1 4 0..2 = NONE 0 0
            drawn 10 4 0..2 = NONE 0 0
            drawn 1 13 0..2 = 10 1 10
            drawn 10 13 0..2 = 1 1 10
            write 1 3 2 = 39
            turn 5 = 1
            drawn 10 4 0..2 = 0
            drawn 10 13 0..2 = 0
            """);
        // 67228 of four nodes: from 0 to 0, so to 1; 218491: from 3 to 3, so to the first, 0.
        Edges.says("(to the next one, behind the last the first, if these are the same)", """
            reads g2,2,0,10;c0,1;c0,2; = 0
            drawn 1 4 0..2 = NONE 0 0
            drawn 1 13 0..2 = 10 1 10
            reads g2,2,0,10;c1,2;c1,3; = 0
            drawn 1 4 0..2 = 10 1 10
            reads g2,2,0,10;c3,0;c3,3; = 0
            drawn 1 13 0..2 = NONE 0 0
            """);
    }

    private static void drawnKinds() {
        // X is 42174226, 1962553390, 1571084537, 1571429185, 1747967077: KINDS 1 to 5, each where
        // a letter of any other KIND would fare otherwise; then the same, written by hand.
        Edges.says("of KIND 1 and what X by 1024 leaves by 5", """
            reads g4,4,0,20;s7,12; = 1
            drawn 1 513602 0..2 = 6 0 1
            write 1 2 8 = 1
            turn 1
            ends 0 = 6
            reads g4,3,0,20;s8,5; = 1
            drawn 1 116770 0..2 = 4 0 1
            write 2 10 1 = 1
            turn 1
            ends 0 = 4
            reads g3,3,0,20;h1,7; = 1
            drawn 1 860117 0..2 = 4 0 1
            write 3 5 6 = 1
            turn 1
            ends 0 = 4
            reads g4,3,0,20;h9,7; = 1
            drawn 1 476818 0..2 = 5 0 1
            write 4 1 6 = 1
            turn 1
            ends 0 = 5
            reads g4,3,0,20;h4,6; = 1
            drawn 1 615095 0..2 = 5 0 1
            write 5 1 7 = 1
            turn 1
            ends 0 = 5
            """);
        Edges.says("from the NODE that X leaves by how many there are to the one that X by 32 (cut)", """
            reads g4,4,0,10; = 0
            drawn 1 1 0..2 = 4 0 0
            cut 13 0
            cut 13 1
            cut 13 3
            drawn 1 1 0..2 = 10 1 10
            cut 7 0
            cut 7 2
            cut 7 3
            drawn 1 1 0..2 = NONE 0 0
            """);
    }
}
