/** Promises 1 to 5: what is told. */
final class EdgesOfTold {
    private EdgesOfTold() {
    }

    static void all() {
        newObject();
        feed();
        net();
        fault();
        undo();
    }

    private static void newObject() {
        Edges.part("Promise 1");
        Edges.says("No NET.", """
            new
            count 0..6 = 0
            fault = 0
            undo = STATE
            write 1 0 1 = STATE
            turn 1 = STATE
            rank 0 = STATE
            golden 0 = STATE
            log 0 = STATE
            sums 0 = STATE
            ends 0 = STATE
            help = STATE
            bridges 0 = STATE
            drawn 1 1 0 = STATE
            image 0..1 = STATE
            restore 0..1 = STATE
            bless 0 = BAD
            unbless 0 = BAD
            cut 0 1 = BAD
            mend 0 1 = BAD
            letter 0 0 = BAD
            node 0 0 = BAD
            at 0 0 = BAD
            box 0 0 = BAD
            far 0 0 = BAD
            near 0 0 = BAD
            why 0 0 0 = BAD
            next 0 = BAD
            arrives 0 = BAD
            worst 0 1 0 = BAD
            odds 0 0 5 0 = BAD
            """);
    }

    private static void feed() {
        Edges.part("Promise 2");
        Edges.says("A byte (0 to 255) comes behind the tape: how many it has.", """
            new
            feed 0 = 1
            feed 255 = 2
            feed 103 = 3
            count 6 = 3
            net = -1000100
            feed 7 = 1
            """);
        Edges.says("BAD;", """
            new
            feed -1 = BAD
            feed 256 = BAD
            feed MIN = BAD
            feed MAX = BAD
            count 6 = 0
            feed 9 = 1
            """);
        Edges.says("FULL.", """
            new
            140 times feed 0 = 1..140
            feed 0 = FULL
            feed 255 = FULL
            feed -1 = BAD
            feed 256 = BAD
            count 6 = 140
            net = -1000100
            feed 0 = 1
            """);
    }

    private static void net() {
        Edges.part("Promise 3");
        Edges.says("The tape, empty then, is read: how many LETTERS there are.", """
            new
            tape g2,2,0,10;
            net = 0
            count 6 = 0
            net = -1000100
            tape g2,2,0,10;{s0,1;*16}
            net = 16
            count 6 = 0
            """);
        Edges.says("-1000100 less the place of a FAULT", """
            new
            net = -1000100
            tape g
            net = -1000101
            # The last place there is: the end of a full tape.
            140 times feed 103
            net = -1000101
            tape g4,4,0,20;c10,1;c10,2;c10,03;{s10,11;*15}s10,11
            net = -1000240
            """);
        // fault() told 2 before, and does so behind it; the tape was empty, and is so behind it.
        Edges.says("all but the tape, that is empty then, and what fault() tells stays.", """
            reads g2,2,0,10;c0,1;s0,3;x1,2; = 2
            bless 1 = 1
            image 0 = 1
            turn 2
            write 4 2 1 = 2
            tape g9
            net = -1000101
            fault = 2
            mark
            tape g4,4,1,99;c0,0;{s0,9;*9}s0,99;
            net = -1000163
            fault = 2
            unchanged
            tape g4,4,1,99;{s0,9;*17}
            net = -1000190
            fault = 3
            count 0..6 = 4 3 1 2 3 3 0
            # Where there is none, there is none yet.
            new
            tape g2,2,0,10;s0,1;s
            net = -1000116
            count 0..6 = 0
            sums 0 = STATE
            """);
    }

    private static void fault() {
        Edges.part("Promise 4");
        Edges.says("The number of the latest FAULT", """
            new
            net = -1000100
            fault = 1
            tape g9
            net = -1000101
            fault = 2
            tape g2,2,0,10;{s0,1;*17}
            net = -1000190
            fault = 3
            # A text without one does not change that.
            tape g2,2,0,10;
            net = 0
            fault = 3
            image 0 = 1
            turn 1
            undo = 0
            restore 0 = 1
            fault = 3
            net = -1000100
            fault = 1
            """);
        Edges.says("0 before one.", """
            new
            fault = 0
            tape g2,2,0,10;
            fault = 0
            net = 0
            fault = 0
            """);
    }

    private static void undo() {
        Edges.part("Promise 5");
        Edges.says("The latest ACT is undone: how many can be undone yet.", """
            reads g2,2,0,10; = 0
            write 1 0 1 = 0
            undo = 0
            count 1 = 0
            9 times write 1 0 1 = 0..8
            8 times undo = 7 6 5 4 3 2 1 0
            count 1 = 1
            # What is refused, told or asked is no ACT.
            write 1 0 3 = 1
            write 1 0 0 = BAD
            turn 0 = BAD
            cut 0 0 = BAD
            bless 9 = BAD
            feed 0 = 1
            image 0 = 1
            ends 0 = 4
            undo = 0
            count 1 = 1
            count 6 = 1
            """);
        Edges.says("STATE: none.", """
            new
            undo = STATE
            tape g2,2,0,10;s0,1;
            net = 1
            undo = STATE
            turn 1
            undo = 0
            undo = STATE
            image 0 = 1
            turn 1
            restore 0 = 1
            undo = STATE
            """);
    }
}
