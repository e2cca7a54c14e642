/** Promises 23 to 33: what is foretold, images, counts. */
final class EdgesOfForetold {
    /** Node 0 is cut off: a letter to it grows old, one from it waits for ever. */
    private static final String CUT_OFF = "g2,2,0,10;c0,1;c0,2;";

    private EdgesOfForetold() {
    }

    static void all() {
        next();
        ends();
        endsIfSomeAreLeft();
        arrives();
        worst();
        help();
        bridges();
        bridgesOfRings();
        odds();
        drawn();
        image();
        restore();
        count();
    }

    private static void next() {
        Edges.part("Promise 23");
        Edges.says("The PORT by which a letter will go in the next TURN", """
            reads g3,3,0,20;s4,1;s4,5;s4,7;s4,3; = 4
            next 0 = 0
            turn 1
            next 1 = 1
            turn 1
            next 2 = 2
            turn 1
            next 3 = 3
            """);
        Edges.says("NONE: by none (it is, or will be DELIVERED, LOST, or WAITS yet).", """
            reads g2,2,0,10;c2,0;c2,1;s0,1;s0,2;s0,1; = 3
            next 0..2 = 1 NONE NONE
            turn 1
            next 0..2 = NONE 1 NONE
            turn 1 = 1
            letter 0 3 = 2
            next 0 = NONE
            turn 9
            letter 1 5 = 10
            next 1 = NONE
            turn 1
            letter 1 3 = 3
            next 1 = NONE
            # It will be overrun.
            reads g2,2,0,10;s0,3; = 1
            turn 1
            cut 1 2
            next 0 = 3
            cut 1 3
            next 0 = NONE
            # Where all is cut, it waits.
            reads %ss0,3; = 1
            next 0 = NONE
            """.formatted(CUT_OFF));
        Edges.says("BAD.", """
            reads g2,2,0,10;s0,1; = 1
            next -1 = BAD
            next 1 = BAD
            next MIN = BAD
            next MAX = BAD
            new
            next 0 = BAD
            """);
    }

    private static void ends() {
        Edges.part("Promise 24");
        Edges.says("LET GO: how many TURNS it takes (what = 0)", """
            reads g2,2,0,10; = 0
            ends 0 = 0
            write 1 0 1 = 0
            ends 0 = 2
            turn 1
            ends 0 = 1
            turn 1
            ends 0 = 0
            """);
        Edges.says("which letter is DELIVERED or LOST last (1;", """
            reads g3,3,0,20;s0,1;s0,4;s2,5; = 3
            ends 1 = 1
            turn 9
            # Those that ended long ago are not the last ones.
            write 1 0 1 = 3
            ends 1 = 3
            # One is delivered, one is lost.
            reads %ss1,0;s2,3; = 2
            ends 1 = 0
            """.formatted(CUT_OFF));
        Edges.says("of several the greatest number", """
            reads g3,3,0,20;s0,1; = 1
            ends 1 = 0
            write 1 8 7 = 1
            write 1 6 3 = 2
            ends 1 = 2
            reads %ss1,0;s3,0;s2,3; = 3
            ends 1 = 1
            """.formatted(CUT_OFF));
        Edges.says("NONE: all are already)", """
            reads g3,3,0,20; = 0
            ends 1 = NONE
            write 1 0 1 = 0
            ends 1 = 0
            turn 1
            ends 1 = 0
            turn 1 = 1
            ends 1 = NONE
            """);
        Edges.says("how many are LOST on the way (2)", """
            reads %ss1,0;s3,0;s2,3; = 3
            ends 2 = 2
            turn 5
            ends 2 = 2
            turn 9
            ends 2 = 0
            sums 2 = 2
            write 1 1 0 = 3
            ends 2 = 1
            """.formatted(CUT_OFF));
        Edges.says("the greatest ASIDES that any letter has in the end (3; 0: there is none)", """
            reads g3,3,0,20; = 0
            ends 3 = 0
            reads g3,3,0,20;s3,5;o1,5; = 2
            ends 3 = 1
            turn 9
            ends 3 = 1
            reads %ss1,0; = 1
            ends 3 = 10
            """.formatted(CUT_OFF));
    }

    private static void endsIfSomeAreLeft() {
        Edges.says("NONE: some letter WAITS or FLIES yet.", """
            reads %ss1,3; = 1
            ends 0..3 = 2 0 0 0
            write 1 0 3 = 1
            ends 0..3 = NONE
            # 300 TURNS are enough, 301 are too many.
            reads g2,2,0,99;c0,2;c1,2;{s0,3;*5} = 5
            ends 0..3 = 300 4 5 99
            write 1 0 3 = 5
            ends 0..3 = NONE
            """.formatted(CUT_OFF));
        Edges.says("BAD; STATE: no NET (ahead of BAD).", """
            reads g2,2,0,10;s0,1; = 1
            ends -1 = BAD
            ends 4 = BAD
            ends MIN = BAD
            ends MAX = BAD
            new
            ends 0..3 = STATE
            ends -1 = STATE
            ends 4 = STATE
            """);
    }

    private static void arrives() {
        Edges.part("Promise 25");
        Edges.says("The TURN (as it is when that begins) in which a letter is, or will be DELIVERED", """
            reads g3,3,0,20;s3,5;o1,5; = 2
            arrives 0..1 = 2 4
            turn 2 = 0
            arrives 0..1 = 2 4
            turn 1 = 1
            letter 0 9 = 2
            arrives 0..1 = 2 4
            turn 50
            arrives 0..1 = 2 4
            """);
        Edges.says("NONE: it is, or will be LOST, or neither.", """
            reads %ss1,0;s0,1; = 2
            arrives 0..1 = NONE
            turn 20
            letter 0..1 3 = 3 0
            arrives 0..1 = NONE
            mend 0 1
            arrives 0..1 = NONE 21
            """.formatted(CUT_OFF));
        Edges.says("BAD.", """
            reads g2,2,0,10;s0,1; = 1
            arrives -1 = BAD
            arrives 1 = BAD
            arrives MIN = BAD
            arrives MAX = BAD
            new
            arrives 0 = BAD
            """);
    }

    private static void worst() {
        Edges.part("Promise 26");
        Edges.says("the most TURNS (what = 0), TO (1;", """
            reads g2,2,0,10; = 0
            worst 0 1 0..1 = 2 3
            worst 3 1 0..1 = 2 0
            reads g4,4,1,20; = 0
            worst 10 1 0..1 = 4 0
            worst 0 1 0..1 = 4 10
            """);
        Edges.says("of several the least).", """
            reads g3,3,1,20; = 0
            worst 0 1 0..1 = 2 4
            worst 8 2 0..1 = 2 0
            reads %s = 0
            worst 0 1 0..1 = 300 1
            worst 3 1 0..1 = 10 0
            """.formatted(CUT_OFF));
        // To node 5 it comes with letter 0, or meets it on its way; only an EXPRESS one is ahead.
        Edges.says("WORST of a KIND (1 to 5)", """
            reads g3,3,0,20;s3,5; = 1
            worst 1 0 0 = BAD
            worst 1 6 0 = BAD
            worst 1 1..5 0 = 4 3 4 4 4
            worst 1 1..5 1 = 5 6 5 5 5
            """);
        Edges.says("BAD;", """
            reads g2,2,0,10; = 0
            worst -1 1 0 = BAD
            worst 4 1 0 = BAD
            worst MIN 1 0 = BAD
            worst MAX 1 0 = BAD
            worst 0 MIN 0 = BAD
            worst 0 MAX 0 = BAD
            worst 0 1 -1 = BAD
            worst 0 1 2 = BAD
            worst 0 1 MIN = BAD
            worst 0 1 MAX = BAD
            new
            worst 0 1 0 = BAD
            """);
        Edges.says("FULL: there are 40.", """
            reads g2,2,0,10; = 0
            39 times write 1 0 1
            turn 50
            sums 1 = 39
            worst 0 1 0..1 = 2 3
            write 1 0 1 = 39
            worst 0 1 0..1 = FULL
            worst 4 1 0 = BAD
            worst 0 6 0 = BAD
            worst 0 1 2 = BAD
            """);
    }

    private static void help() {
        Edges.part("Promise 27");
        Edges.says("of several the least number", """
            reads g3,3,0,20;s3,5;o1,5; = 2
            help = 0
            reads g3,3,0,20;s0,1;s8,7;s6,3; = 3
            help = 0
            """);
        Edges.says("The letter by HELP of which LET GO takes the fewest TURNS", """
            reads g4,3,0,20;s4,6;o1,7; = 2
            ends 0 = 6
            help = 1
            # One that has come cannot be helped.
            reads g2,2,0,10;s0,1;s0,3; = 2
            turn 2 = 1
            help = 1
            """);
        Edges.says("NONE: none WAITS or FLIES, or by none they all come to an end.", """
            reads g2,2,0,10; = 0
            help = NONE
            write 1 0 1 = 0
            help = 0
            turn 2 = 1
            help = NONE
            reads %ss1,3; = 1
            help = 0
            write 1 0 3 = 1
            help = NONE
            """.formatted(CUT_OFF));
        Edges.says("STATE: no NET.", """
            new
            help = STATE
            """);
    }

    private static void bridges() {
        Edges.part("Promise 28");
        Edges.says("would leave two NODES without a way between them that have one now", """
            reads g3,2,0,10; = 0
            bridges 0..1 = 0 NONE
            cut 2 2
            bridges 0..1 = 2 5
            cut 1 1
            # Node 2 has no way already; what is left of its links is nothing.
            bridges 0..1 = 1 17
            # No link at all.
            reads g2,2,0,10;c0,1;c0,2;c3,0;c3,3; = 0
            bridges 0..1 = 0 NONE
            # All are: a tree of 15 links.
            reads g4,4,0,10;c0,2;c1,2;c2,2;c5,2;c6,2;c7,2;c8,2;c9,2;c10,2; = 0
            bridges 0..1 = 15 1
            """);
        Edges.says("4 times the NODE, and the PORT, by the lesser one of both its ends; NONE).", """
            reads g2,2,0,10; = 0
            bridges 1 = NONE
            cut 0 1
            # Links 0 2, 1 2, 2 1 are left.
            bridges 0..1 = 3 2
            cut 0 2
            bridges 0..1 = 2 6
            cut 1 2
            bridges 0..1 = 1 9
            cut 2 1
            bridges 0..1 = 0 NONE
            """);
        Edges.says("BAD; STATE: no NET (ahead of BAD).", """
            reads g2,2,0,10; = 0
            bridges -1 = BAD
            bridges 2 = BAD
            bridges MIN = BAD
            bridges MAX = BAD
            new
            bridges 0..1 = STATE
            bridges -1 = STATE
            bridges 2 = STATE
            """);
    }

    private static void bridgesOfRings() {
        // Between two nodes there are two links: one of them is no bridge till the other is cut.
        Edges.says("how many (what = 0)", """
            reads g2,2,1,10;c0,0;c0,2; = 0
            bridges 0..1 = 0 NONE
            cut 2 1
            cut 0 1
            bridges 0..1 = 2 3
            # The links go round the ring, from node 0 by port 0 to node 6, by port 3 to node 3.
            reads g2,4,1,10;c0,1;c0,2;c0,3; = 0
            bridges 0..1 = 1 0
            reads g4,2,1,10;c0,0;c0,1;c0,2; = 0
            bridges 0..1 = 1 3
            # From node 1 by port 0 to node 3.
            reads g2,2,1,10;c1,1;c1,3;c1,2; = 0
            bridges 0..1 = 1 4
            """);
    }

    private static void odds() {
        Edges.part("Promise 29");
        Edges.says("ODDS of a letter, by LINKS of a NODE: above (what = 0), below (1).", """
            reads g2,2,0,10;s0,1; = 1
            odds 0 0 5 0..1 = 3 4
            odds 0 0 0 0..1 = 1 1
            odds 0 0 10 0..1 = 0 1
            odds 0 1 10 0..1 = 0 1
            odds 0 3 10 0..1 = 1 1
            """);
        Edges.says("BAD.", """
            reads g2,2,0,10;s0,1; = 1
            odds -1 0 5 0 = BAD
            odds 1 0 5 0 = BAD
            odds MIN 0 5 0 = BAD
            odds MAX 0 5 0 = BAD
            odds 0 -1 5 0 = BAD
            odds 0 4 5 0 = BAD
            odds 0 MIN 5 0 = BAD
            odds 0 MAX 5 0 = BAD
            odds 0 0 -1 0 = BAD
            odds 0 0 11 0 = BAD
            odds 0 0 MIN 0 = BAD
            odds 0 0 MAX 0 = BAD
            odds 0 0 5 -1 = BAD
            odds 0 0 5 2 = BAD
            odds 0 0 5 MIN = BAD
            odds 0 0 5 MAX = BAD
            new
            odds 0 0 5 0 = BAD
            """);
    }

    private static void drawn() {
        Edges.part("Promise 30");
        Edges.says("YEARS by a SEED (1 to 999999): behind all, LET GO", """
            reads g4,4,0,10; = 0
            drawn 1 0 0 = BAD
            drawn 1 1 0 = 4
            drawn 1 999999 0 = 1
            drawn 1 1000000 0 = BAD
            drawn 0 1 0 = 0
            """);
        Edges.says("NONE: some letter WAITS or FLIES yet)", """
            reads %s = 0
            drawn 1 4 0 = NONE
            drawn 1 13 0 = 10
            # 300 TURNS behind the years.
            reads g2,2,0,99;c0,2;c1,2;{s0,3;*5} = 5
            drawn 0 1 0..2 = 300 5 495
            write 1 0 3 = 5
            drawn 0 1 0 = NONE
            """.formatted(CUT_OFF));
        Edges.says("how many letters are LOST then (1), ASIDES of all, together (2).", """
            reads %ss1,0; = 1
            drawn 0 1 0..2 = 11 1 10
            drawn 1 13 0..2 = 10 2 20
            turn 12
            sums 2 = 1
            drawn 0 1 0..2 = 0 1 10
            drawn 1 13 0..2 = 10 2 20
            """.formatted(CUT_OFF));
        Edges.says("BAD;", """
            reads g2,2,0,10; = 0
            drawn -1 1 0 = BAD
            drawn 11 1 0 = BAD
            drawn MIN 1 0 = BAD
            drawn MAX 1 0 = BAD
            drawn 1 0 0 = BAD
            drawn 1 -1 0 = BAD
            drawn 1 1000000 0 = BAD
            drawn 1 MIN 0 = BAD
            drawn 1 MAX 0 = BAD
            drawn 1 1 -1 = BAD
            drawn 1 1 3 = BAD
            drawn 1 1 MIN = BAD
            drawn 1 1 MAX = BAD
            """);
        Edges.says("STATE: no NET (ahead of BAD).", """
            new
            drawn 1 1 0..2 = STATE
            drawn -1 1 0 = STATE
            drawn 11 1 0 = STATE
            drawn 1 0 0 = STATE
            drawn 1 1 3 = STATE
            """);
    }

    private static void image() {
        Edges.part("Promise 31");
        Edges.says("An IMAGE (0, 1) is kept of the NET and all that flies: 1.", """
            reads g2,2,0,10;s0,3;s0,1; = 2
            image 0 = 1
            turn 1
            bless 0 = 1
            cut 0 1
            image 1 = 1
            count 5 = 3
            turn 9
            write 1 0 1 = 2
            restore 0 = 1
            sums 0 = 0
            count 0..5 = 4 2 2 0 4 0
            golden 0 = NONE
            restore 1 = 1
            sums 0 = 1
            count 0..5 = 4 2 1 1 3 0
            golden 0 = 0
            letter 0 4 = 1
            far 0 1 = 3
            node 0 4 = 1
            # A later one takes the place of the one before.
            turn 1
            image 1 = 1
            restore 0 = 1
            restore 1 = 1
            sums 0 = 2
            """);
        Edges.says("BAD;", """
            reads g2,2,0,10; = 0
            image -1 = BAD
            image 2 = BAD
            image MIN = BAD
            image MAX = BAD
            restore 0..1 = STATE
            new
            image -1 = BAD
            image 2 = BAD
            """);
        Edges.says("STATE: no NET.", """
            new
            image 0 = STATE
            image 1 = STATE
            tape g2,2,0,10
            net = -1000109
            image 0 = STATE
            restore 0 = STATE
            """);
    }

    private static void restore() {
        Edges.part("Promise 32");
        // Lost and delivered letters, golden ones, cuts, of a greater net than what comes between.
        Edges.says("All is as an IMAGE kept it", """
            reads g3,3,0,20;s3,5;o1,5;s8,7;s0,8; = 4
            bless 3 = 1
            turn 1
            cut 4 0
            cut 4 2
            cut 4 3
            turn 1
            image 0 = 1
            # In another net letters of these numbers grow old.
            tape g2,2,0,10;c0,1;c0,2;s1,0;s2,0;s3,0;s0,1;s0,1;
            net = 5
            bless 4 = 1
            turn 50
            why 1 0..1 0 = 1 2
            restore 0 = 1
            log 0..1 = 2 NONE
            golden 0..1 = 3 NONE
            why 1 0..2 0 = 1 3 4
            why 1 0..2 1 = 1 4 3
            sums 0..5 = 2 1 1 0 6 1
            count 0..6 = 9 4 0 2 9 0 0
            # As often as one likes; and it is not changed by what comes behind.
            turn 3
            restore 0 = 1
            sums 0 = 2
            # The tape, and fault(), are none of it.
            tape g3
            restore 0 = 1
            count 6 = 2
            net = -1000102
            fault = 1
            restore 0 = 1
            fault = 1
            """);
        // Letter 0 was overrun in both, at node 1 and at node 2; in both another link was cut last.
        Edges.says("All is as an IMAGE kept it", """
            reads g2,2,0,10;s0,3; = 1
            turn 1
            cut 1 3
            cut 1 2
            turn 1
            image 0 = 1
            tape g2,2,0,10;s3,0;
            net = 1
            turn 1
            cut 2 0
            cut 2 1
            turn 1
            image 1 = 1
            restore 0 = 1
            why 0 0..2 1 = 1 1 2
            node 1 4 = 2
            node 2 4 = NONE
            restore 1 = 1
            why 0 0..2 1 = 1 2 1
            node 1 4 = NONE
            node 2 4 = 1
            # The last node of the greatest net.
            reads g4,4,0,10; = 0
            cut 15 3
            image 0 = 1
            cut 15 0
            image 1 = 1
            restore 0 = 1
            node 15 4 = 3
            node 15 1 = 1
            restore 1 = 1
            node 15 4 = 0
            node 15 1 = 0
            """);
        Edges.says("(no ACT can be undone then): 1.", """
            reads g2,2,0,10;s0,3; = 1
            turn 1
            image 0 = 1
            turn 1
            undo = 1
            restore 0 = 1
            count 5 = 0
            undo = STATE
            turn 1
            undo = 0
            undo = STATE
            sums 0 = 1
            """);
        Edges.says("BAD; STATE: none was kept.", """
            reads g2,2,0,10; = 0
            restore 0 = STATE
            restore 1 = STATE
            restore -1 = BAD
            restore 2 = BAD
            restore MIN = BAD
            restore MAX = BAD
            image 1 = 1
            restore 0 = STATE
            restore 1 = 1
            new
            restore 0 = STATE
            restore 2 = BAD
            """);
    }

    private static void count() {
        Edges.part("Promise 33");
        Edges.says("How many: 0 NODES, 1 LETTERS, 2 that WAIT, 3 that FLY, 4 LINKS (each once), 5 ACTS", """
            new
            count 0..6 = 0
            reads g3,4,0,20;c0,1;s0,5;s0,6;s1,2; = 3
            turn 1
            feed 103 = 1
            count 0..6 = 12 3 1 2 16 1 1
            turn 1 = 1
            count 0..6 = 12 3 0 2 16 2 1
            turn 50 = 2
            count 0..6 = 12 3 0 0 16 3 1
            # The least net and the greatest one, by each WAY.
            reads g2,2,0,10; = 0
            count 4 = 4
            reads g2,2,1,10; = 0
            count 4 = 8
            reads g4,4,0,10; = 0
            count 4 = 24
            reads g4,4,2,10; = 0
            count 4 = 32
            # Full of all.
            reads g2,2,0,10;{s0,1;*16} = 16
            24 times write 1 3 1
            140 times feed 0
            count 0..6 = 4 40 40 0 4 8 140
            """);
        Edges.says("BAD.", """
            reads g2,2,0,10; = 0
            count -1 = BAD
            count 7 = BAD
            count MIN = BAD
            count MAX = BAD
            new
            count -1 = BAD
            count 7 = BAD
            """);
    }
}
