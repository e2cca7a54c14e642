/** Promises 6 to 11: what is done. */
final class EdgesOfDone {
    private EdgesOfDone() {
    }

    static void all() {
        write();
        bless();
        unbless();
        cut();
        mend();
        turn();
    }

    private static void write() {
        Edges.part("Promise 6");
        Edges.says("A letter of a KIND (1 to 5) is written from a NODE to another one: its number.", """
            reads g2,2,0,10; = 0
            write 0 0 1 = BAD
            write 1 0 1 = 0
            write 2 0 1 = 1
            write 3 1 0 = 2
            write 4 3 0 = 3
            write 5 0 3 = 4
            write 6 0 1 = BAD
            write MIN 0 1 = BAD
            write MAX 0 1 = BAD
            letter 0..4 0 = 1 2 3 4 5
            letter 0..4 1 = 0 0 1 3 0
            letter 0..4 2 = 1 1 0 0 3
            letter 0..4 3 = 0
            # The greatest net.
            reads g4,4,0,10; = 0
            write 1 15 0 = 0
            write 1 0 15 = 1
            """);
        Edges.says("BAD: one and the same, too", """
            reads g2,2,0,10; = 0
            write 1 0 0 = BAD
            write 1 3 3 = BAD
            write 1 -1 0 = BAD
            write 1 4 0 = BAD
            write 1 0 -1 = BAD
            write 1 0 4 = BAD
            write 1 MIN MIN = BAD
            write 1 MAX MAX = BAD
            reads g4,4,0,10; = 0
            write 1 16 0 = BAD
            write 1 0 16 = BAD
            write 1 15 15 = BAD
            count 1 = 0
            count 5 = 0
            """);
        Edges.says("STATE: no NET (ahead of BAD)", """
            new
            write 1 0 1 = STATE
            write 0 0 1 = STATE
            write 1 -1 99 = STATE
            write 1 0 0 = STATE
            """);
        Edges.says("FULL: 40.", """
            reads g2,2,0,10; = 0
            39 times write 1 0 1 = 0..38
            write 5 3 2 = 39
            write 1 0 1 = FULL
            write 5 3 2 = FULL
            write 1 0 0 = BAD
            write 6 0 1 = BAD
            count 1 = 40
            undo = 7
            write 1 0 1 = 39
            write 1 0 1 = FULL
            """);
    }

    private static void bless() {
        Edges.part("Promise 7");
        Edges.says("A letter comes behind the GOLDEN ones: how many there are.", """
            reads g2,2,0,10;s0,1;s0,1;s3,1; = 3
            bless 2 = 1
            bless 0 = 2
            golden 0..2 = 2 0 NONE
            turn 1
            bless 1 = 3
            golden 0..3 = 2 0 1 NONE
            """);
        Edges.says("BAD;", """
            reads g2,2,0,10;s0,1; = 1
            bless -1 = BAD
            bless 1 = BAD
            bless MIN = BAD
            bless MAX = BAD
            bless 0 = 1
            new
            bless 0 = BAD
            """);
        Edges.says("STATE: it is one, or it neither WAITS nor FLIES", """
            reads g2,2,0,10;c2,0;c2,1;s0,1;s3,2;s0,3; = 3
            bless 2 = 1
            bless 2 = STATE
            golden 0..1 = 2 NONE
            turn 2 = 1
            letter 0 3 = 2
            bless 0 = STATE
            bless 1 = 2
            unbless 1 = 1
            turn 9
            letter 1 3 = 3
            bless 1 = STATE
            """);
        Edges.says("FULL: 4.", """
            reads g2,2,0,10;s3,1;{s0,1;*6} = 7
            turn 2
            letter 0 3 = 2
            bless 2 = 1
            bless 3 = 2
            bless 4 = 3
            bless 5 = 4
            bless 6 = FULL
            bless 5 = STATE
            bless 0 = STATE
            bless 7 = BAD
            unbless 3 = 3
            bless 6 = 4
            bless 3 = FULL
            # One of them is delivered: there is room again.
            turn 1
            letter 2 3 = 2
            bless 3 = 4
            """);
    }

    private static void unbless() {
        Edges.part("Promise 8");
        Edges.says("A letter is GOLDEN no more: how many are left.", """
            reads g2,2,0,10;{s0,1;*4} = 4
            bless 3 = 1
            bless 1 = 2
            bless 0 = 3
            bless 2 = 4
            unbless 1 = 3
            golden 0..3 = 3 0 2 NONE
            unbless 3 = 2
            golden 0..2 = 0 2 NONE
            unbless 2 = 1
            unbless 0 = 0
            golden 0 = NONE
            """);
        Edges.says("BAD;", """
            reads g2,2,0,10;s0,1; = 1
            bless 0 = 1
            unbless -1 = BAD
            unbless 1 = BAD
            unbless MIN = BAD
            unbless MAX = BAD
            golden 0 = 0
            new
            unbless 0 = BAD
            """);
        Edges.says("STATE: it is none.", """
            reads g2,2,0,10;s0,1;s0,1; = 2
            unbless 0 = STATE
            bless 0 = 1
            unbless 1 = STATE
            unbless 0 = 0
            unbless 0 = STATE
            bless 0 = 1
            turn 2 = 1
            unbless 0 = STATE
            """);
    }

    private static void cut() {
        Edges.part("Promise 9");
        Edges.says("The LINK of a PORT (0 to 3) of a NODE is CUT: how many LINKS there are", """
            reads g3,3,0,10; = 0
            cut 4 0 = 11
            cut 4 1 = 10
            cut 4 2 = 9
            cut 4 3 = 8
            cut 8 0 = 7
            cut 0 1 = 6
            node 4 1 = 0
            count 4 = 6
            # The last one of all.
            reads g2,2,0,10; = 0
            cut 0 1 = 3
            cut 2 1 = 2
            cut 0 2 = 1
            cut 3 0 = 0
            reads g2,2,1,10; = 0
            cut 0 1 = 7
            cut 0 3 = 6
            """);
        Edges.says("BAD: there is none and was none, too", """
            reads g3,3,0,10; = 0
            cut -1 1 = BAD
            cut 9 3 = BAD
            cut MIN 0 = BAD
            cut MAX 0 = BAD
            cut 4 -1 = BAD
            cut 4 4 = BAD
            cut 4 MIN = BAD
            cut 4 MAX = BAD
            cut 0 0 = BAD
            cut 0 3 = BAD
            cut 8 1 = BAD
            cut 8 2 = BAD
            count 5 = 0
            new
            cut 0 1 = BAD
            """);
        Edges.says("STATE: it is cut.", """
            reads g3,3,0,10;c1,1; = 0
            cut 1 1 = STATE
            cut 2 3 = STATE
            cut 0 1 = 10
            cut 0 1 = STATE
            cut 1 3 = STATE
            mend 0 1 = 11
            cut 1 3 = 10
            count 5 = 3
            reads g3,3,1,10; = 0
            cut 0 3 = 17
            cut 2 1 = STATE
            cut 0 0 = 16
            cut 6 2 = STATE
            """);
    }

    private static void mend() {
        Edges.part("Promise 10");
        Edges.says("A LINK that was CUT is there again: how many there are.", """
            reads g3,3,0,10;c0,1; = 0
            cut 4 0 = 10
            cut 4 3 = 9
            mend 4 0 = 10
            mend 3 1 = 11
            mend 1 3 = 12
            node 0..4 1 = 6 14 12 7 15
            far 0 1 = 1
            reads g2,2,1,10;c0,3;c0,0; = 0
            mend 1 1 = 7
            mend 2 2 = 8
            """);
        Edges.says("BAD: there never was one, too", """
            reads g3,3,0,10;c4,0; = 0
            mend -1 0 = BAD
            mend 9 0 = BAD
            mend MIN 0 = BAD
            mend MAX 0 = BAD
            mend 4 -1 = BAD
            mend 4 4 = BAD
            mend 4 MIN = BAD
            mend 4 MAX = BAD
            mend 0 0 = BAD
            mend 0 3 = BAD
            mend 8 1 = BAD
            mend 8 2 = BAD
            new
            mend 0 1 = BAD
            """);
        Edges.says("STATE: it is not cut.", """
            reads g3,3,0,10;c4,0; = 0
            mend 4 1 = STATE
            mend 5 3 = STATE
            mend 1 2 = 12
            mend 1 2 = STATE
            mend 4 0 = STATE
            count 5 = 1
            """);
    }

    private static void turn() {
        Edges.part("Promise 11");
        Edges.says("n TURNS (1 to 50): how many letters were DELIVERED in these.", """
            reads g2,2,0,10;s0,1;s0,2;s0,3; = 3
            turn 1 = 0
            sums 0 = 1
            turn 1 = 1
            turn 1 = 1
            turn 50 = 1
            sums 0 = 53
            turn 50 = 0
            sums 0 = 103
            """);
        Edges.says("BAD;", """
            reads g2,2,0,10;s0,1; = 1
            turn 0 = BAD
            turn 51 = BAD
            turn -1 = BAD
            turn MIN = BAD
            turn MAX = BAD
            sums 0 = 0
            count 5 = 0
            """);
        Edges.says("STATE: no NET (ahead of BAD).", """
            new
            turn 1 = STATE
            turn 50 = STATE
            turn 0 = STATE
            turn 51 = STATE
            """);
    }
}
