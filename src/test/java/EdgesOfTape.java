/** "Terms" 1: the tape, what a net's text is, and its faults. */
final class EdgesOfTape {
    /** 10 bytes, 3 cuts of 6, 16 letters of 7: 140 bytes. */
    private static final String LONGEST = "g4,4,0,20;c10,1;c10,2;c10,3;{s10,11;*16}";

    /** By ports 1 and 2 of nodes 0 to 9: 20 cuts of 5 bytes. */
    private static final String SHORT_CUTS = "c0,1;c0,2;c1,1;c1,2;c2,1;c2,2;c3,1;c3,2;c4,1;c4,2;"
            + "c5,1;c5,2;c6,1;c6,2;c7,1;c7,2;c8,1;c8,2;c9,1;c9,2;";

    private EdgesOfTape() {
    }

    static void all() {
        Edges.part("Terms 1");
        bytes();
        tokens();
        heads();
        cuts();
        letters();
        standsInPlace();
        whichFault();
        faultOfTheEnd();
        faultsByNumber();
    }

    private static void bytes() {
        Edges.says("THE TAPE has at most 140 bytes", """
            new
            140 times feed 103 = 1..140
            feed 103 = FULL
            count 6 = 140
            new
            tape %s
            count 6 = 140
            feed 59 = FULL
            net = 16
            letter 15 2 = 11
            count 4 = 21
            count 6 = 0
            feed 103 = 1
            # Cuts alone, up to the last byte.
            new
            tape g4,4,1,20;%s
            tape c10,1;c10,2;c11,1;c11,2;c12,1;
            count 6 = 140
            feed 99 = FULL
            net = 0
            count 4 = 7
            """.formatted(LONGEST, SHORT_CUTS));
        Edges.says("that come one by one", """
            new
            count 6 = 0
            feed 103 = 1
            feed 52 = 2
            feed 44 = 3
            feed 50 = 4
            feed 44 = 5
            feed 48 = 6
            feed 44 = 7
            feed 49 = 8
            feed 48 = 9
            feed 59 = 10
            net = 0
            count 0 = 8
            far 3 4 = 4
            """);
    }

    private static void tokens() {
        Edges.says("letters a to z (each by itself)", """
            reads g2,2,0,10;s0,1;x0,1; = 2
            fails gg2,2,0,10; = 1 1
            fails g2,2,0,10;sx0,1; = 11 1
            fails g2,2,0,10;a0,1; = 10 1
            fails g2,2,0,10;z0,1; = 10 1
            fails G2,2,0,10; = 0 1
            fails g2,2,0,10;S0,1; = 10 1
            fails g2,2,0,10;`0,1; = 10 1
            """);
        // 47 and 58 stand beside the figures.
        Edges.says("NUMBERS (figures, 2 at most)", """
            reads g2,2,0,10; = 0
            reads g02,02,00,10; = 0
            fails g002,2,0,10; = 1 1
            fails g2,2,0,010; = 7 1
            fails g2,2,0,10;s000,1; = 11 1
            fails g/2,2,0,10; = 1 1
            fails g2/,2,0,10; = 2 1
            fails g:2,2,0,10; = 1 1
            fails g2:,2,0,10; = 2 1
            """);
        Edges.says("SIGNS , and ; nothing else", """
            fails g2.2,0,10; = 2 1
            fails g-2,2,0,10; = 1 1
            fails g2,2,0,10: = 9 1
            fails g2,2,0,10;; = 10 1
            fails g2,2,0,10;, = 10 1
            new
            bytes 103 32 50
            net = -1000101
            new
            bytes 103 50 44 50 44 48 44 49 48 59 10
            net = -1000110
            fault = 1
            new
            bytes 0
            net = -1000100
            fault = 1
            new
            bytes 103 255
            net = -1000101
            fault = 1
            """);
    }

    private static void heads() {
        Edges.says("net: g W , H , WAY , LIFE ; { cut } { letter }.", """
            reads g3,2,1,15; = 0
            count 0 = 6
            reads g3,2,0,15;c0,1;c1,1;s0,5;s5,0; = 2
            count 4 = 5
            fails g3,2,1,15;s0,5;c0,1; = 15 1
            fails 3,2,1,15; = 0 1
            fails g3;2,1,15; = 2 1
            fails g3,2;1,15; = 4 1
            fails g3,2,1;15; = 6 1
            fails g3,2,1,15, = 9 1
            fails g3,2,1,15;g3,2,1,15; = 10 1
            """);
        Edges.says("(W, H 2 to 4 each", """
            fails g0,2,0,10; = 1 2
            fails g1,2,0,10; = 1 2
            reads g2,4,0,10; = 0
            count 0 = 8
            reads g4,2,0,10; = 0
            count 0 = 8
            fails g5,2,0,10; = 1 2
            fails g99,2,0,10; = 1 2
            fails g2,0,0,10; = 3 2
            fails g2,1,0,10; = 3 2
            reads g2,2,0,10; = 0
            count 0 = 4
            reads g4,4,0,10; = 0
            count 0 = 16
            fails g2,5,0,10; = 3 2
            fails g2,99,0,10; = 3 2
            """);
        Edges.says("WAY 0 to 2", """
            reads g3,3,0,10; = 0
            count 4 = 12
            reads g3,3,1,10; = 0
            count 4 = 18
            reads g3,3,2,10; = 0
            count 4 = 18
            fails g3,3,3,10; = 5 2
            fails g3,3,99,10; = 5 2
            """);
        Edges.says("LIFE 10 to 99.)", """
            fails g2,2,0,0; = 7 2
            fails g2,2,0,9; = 7 2
            fails g2,2,0,09; = 7 2
            reads g2,2,0,10; = 0
            reads g2,2,0,99; = 0
            fails g2,2,0,100; = 7 1
            """);
    }

    private static void cuts() {
        Edges.says("cut: c NODE , PORT ; (0 to W times H less 1", """
            reads g4,3,1,10;c0,1; = 0
            reads g4,3,1,10;c11,1; = 0
            fails g4,3,1,10;c12,1; = 11 2
            reads g2,2,1,10;c3,1; = 0
            fails g2,2,1,10;c4,1; = 11 2
            reads g4,4,1,10;c15,1; = 0
            fails g4,4,1,10;c16,1; = 11 2
            fails g4,4,1,10;c99,1; = 11 2
            fails g2,2,1,10;c,1; = 11 1
            fails g2,2,1,10;c0;1; = 12 1
            fails g2,2,1,10;c0,; = 13 1
            fails g2,2,1,10;c0,1, = 14 1
            """);
        Edges.says("0 to 3, one that has a LINK there that is not cut)", """
            reads g3,3,0,10;c4,0;c4,1;c4,2;c4,3; = 0
            count 4 = 8
            fails g3,3,0,10;c4,4; = 13 2
            fails g3,3,0,10;c4,99; = 13 2
            # A PORT that goes out of the rows.
            fails g3,3,0,10;c0,0; = 13 2
            fails g3,3,0,10;c0,3; = 13 2
            fails g3,3,0,10;c8,1; = 13 2
            fails g3,3,0,10;c8,2; = 13 2
            reads g3,3,1,10;c0,0;c0,3;c8,1;c8,2; = 0
            # One that is cut, from this end and from the other one, round the ring too.
            fails g3,3,0,10;c0,1;c0,1; = 18 2
            fails g3,3,0,10;c0,1;c1,3; = 18 2
            fails g3,3,1,10;c0,3;c2,1; = 18 2
            fails g3,3,1,10;c0,0;c6,2; = 18 2
            # Of two nodes' two links one is cut, then the other.
            reads g2,2,1,10;c0,1;c0,3; = 0
            fails g2,2,1,10;c0,1;c1,3; = 18 2
            """);
    }

    private static void letters() {
        Edges.says("letter: SORT FROM , TO ; (s of KIND 1, x 2, t 3, o 4, h 5", """
            reads g2,2,0,10;s0,1;x1,2;t2,3;o3,0;h0,2; = 5
            letter 0..4 0 = 1 2 3 4 5
            letter 0..4 1 = 0 1 2 3 0
            letter 0..4 2 = 1 2 3 0 2
            fails g2,2,0,10;g0,1; = 10 1
            fails g2,2,0,10;0,1; = 10 1
            fails g2,2,0,10;s0;1; = 12 1
            fails g2,2,0,10;s0,1, = 14 1
            fails g2,2,0,10;s,1; = 11 1
            fails g2,2,0,10;s0,; = 13 1
            """);
        Edges.says("NODES both", """
            reads g4,3,0,10;s0,11;s11,0; = 2
            fails g4,3,0,10;s12,0; = 11 2
            fails g4,3,0,10;s0,12; = 13 2
            reads g2,2,0,10;s3,0;s0,3; = 2
            fails g2,2,0,10;s4,0; = 11 2
            fails g2,2,0,10;s0,4; = 13 2
            reads g4,4,0,10;s15,0;s0,15; = 2
            fails g4,4,0,10;s16,0; = 11 2
            fails g4,4,0,10;s0,16; = 13 2
            """);
        Edges.says("TO not FROM", """
            fails g2,2,0,10;s0,0; = 13 2
            fails g2,2,0,10;s3,3; = 13 2
            fails g4,4,0,10;s15,15; = 14 2
            fails g2,2,0,10;s1,01; = 13 2
            reads g2,2,0,10;s1,00; = 1
            """);
        Edges.says("16 at most in a text)", """
            reads g2,2,0,10; = 0
            reads g2,2,0,10;{s0,1;*15} = 15
            reads g2,2,0,10;{s0,1;*16} = 16
            letter 15 3 = 0
            letter 16 3 = BAD
            fails g2,2,0,10;{s0,1;*17} = 90 3
            """);
    }

    private static void standsInPlace() {
        Edges.says("A NET that is read stands in place of the one before (none at first)", """
            new
            count 0 = 0
            sums 0 = STATE
            tape g4,4,2,10;c0,1;{s0,1;*16}
            net = 16
            bless 3 = 1
            turn 9
            cut 5 1 = 30
            tape g2,3,0,10;s0,5;
            net = 1
            count 0..6 = 6 1 1 0 7 0 0
            letter 0 2 = 5
            letter 1 2 = BAD
            node 5 4 = NONE
            node 6 0 = BAD
            golden 0 = NONE
            log 0 = NONE
            rank 0 = NONE
            far 0 5 = 3
            far 0 6 = BAD
            sums 0..5 = 0 0 0 0 0 NONE
            """);
        Edges.says("its letters wait, its TURN is 0", """
            reads g2,2,0,10;s0,1;s3,1; = 2
            turn 5 = 2
            tape g2,2,0,10;s0,1;s3,1;
            net = 2
            letter 0..1 3 = 0 0
            letter 0..1 5 = 0 0
            letter 0..1 9 = NONE NONE
            count 2 = 2
            sums 0 = 0
            # What was foretold leaves nothing behind, either.
            bless 1 = 1
            ends 0 = 4
            drawn 3 3 0
            tape g2,2,0,10;s0,1;
            net = 1
            sums 0..5 = 0 0 0 0 0 NONE
            golden 0 = NONE
            log 0 = NONE
            turn 2 = 1
            log 0..1 = 0 NONE
            write 1 0 3 = 1
            bless 1 = 1
            next 1 = 1
            tape g2,2,0,10;s0,1;s0,1;
            net = 2
            golden 0 = NONE
            letter 1 10 = 0
            """);
        Edges.says("no ACT can be undone", """
            reads g2,2,0,10;s0,1; = 1
            turn 1
            bless 0 = 1
            count 5 = 2
            tape g2,2,0,10;s0,1;
            net = 1
            count 5 = 0
            undo = STATE
            write 1 0 1 = 1
            undo = 0
            undo = STATE
            """);
        Edges.says("IMAGES stay.", """
            reads g2,2,0,10;s0,1; = 1
            turn 1
            image 0 = 1
            cut 0 2 = 3
            image 1 = 1
            tape g4,4,1,99;{s0,9;*12}
            net = 12
            turn 3
            restore 0 = 1
            count 0 = 4
            count 1 = 1
            count 4 = 4
            sums 0 = 1
            letter 0 4 = 1
            restore 1 = 1
            count 4 = 3
            """);
    }

    private static void whichFault() {
        Edges.says("FAULTS, the first TOKEN that has one (its first byte)", """
            fails g9,9,9,9; = 1 2
            fails g2,9,9,9; = 3 2
            fails g2,2,9,9; = 5 2
            fails g2,2,0,9: = 7 2
            fails g4,4,0,10;c99,99; = 11 2
            fails g4,4,0,10;c10,99; = 14 2
            fails g4,4,0,10;s99,99; = 11 2
            fails g4,4,0,10;s10,99, = 14 2
            fails g4,4,0,10;s10,10, = 14 2
            fails g2,2,0,10;s0,1;?s0,0; = 15 1
            """);
        // A number, or a 17th letter, where none can stand; and figures that are too many.
        Edges.says("of one TOKEN the least", """
            fails g2,2,0,10;99 = 10 1
            fails 99 = 0 1
            fails g2,2,0,999; = 7 1
            fails g555,2,0,10; = 1 1
            fails g2,2,0,10;{s0,1;*16}a = 90 1
            fails g2,2,0,10;{s0,1;*16}c0,1; = 90 1
            fails g2,2,0,10;{s0,1;*16}9 = 90 1
            fails g2,2,0,10;s{s0,1;*16} = 11 1
            """);
    }

    private static void faultOfTheEnd() {
        Edges.says("1 it cannot stand there, or is none", """
            fails s = 0 1
            fails g, = 1 1
            fails g22 = 1 2
            fails g2g = 2 1
            fails g2,; = 3 1
            fails g2,2,0,10;c1c = 12 1
            fails g2,2,0,10;s1s = 12 1
            fails ! = 0 1
            """);
        // Runs so long that their value is beyond all numbers.
        Edges.says("(a run of three figures or more, at its first", """
            fails 222 = 0 1
            fails g222,2,0,10; = 1 1
            fails g2222,2,0,10; = 1 1
            fails g2,002,0,10; = 3 1
            fails g2,2,0,10;s0,1234567890123456789; = 13 1
            fails g2,2,0,10;c000; = 11 1
            fails g2,2,0,10;c0,001; = 13 1
            fails g{4*139} = 1 1
            fails g{0*139} = 1 1
            """);
        // Each beginning of one text; LIFE 2 is too small, so that is the fault there.
        Edges.says("the end: how many bytes there are)", """
            new
            net = -1000100
            fault = 1
            fails g = 1 1
            fails g3 = 2 1
            fails g3, = 3 1
            fails g3,4 = 4 1
            fails g3,4, = 5 1
            fails g3,4,1 = 6 1
            fails g3,4,1, = 7 1
            fails g3,4,1,2 = 7 2
            fails g3,4,1,20 = 9 1
            reads g3,4,1,20; = 0
            fails g3,4,1,20;c = 11 1
            fails g3,4,1,20;c1 = 12 1
            fails g3,4,1,20;c11 = 13 1
            fails g3,4,1,20;c11, = 14 1
            fails g3,4,1,20;c11,1 = 15 1
            reads g3,4,1,20;c11,1; = 0
            fails g3,4,1,20;c11,1;s = 17 1
            fails g3,4,1,20;c11,1;s1 = 18 1
            fails g3,4,1,20;c11,1;s10 = 19 1
            fails g3,4,1,20;c11,1;s10, = 20 1
            fails g3,4,1,20;c11,1;s10,1 = 21 1
            fails g3,4,1,20;c11,1;s10,11 = 22 1
            reads g3,4,1,20;c11,1;s10,11; = 1
            # Bytes of an earlier text do not come behind a shorter one.
            new
            tape g2,2,0,10;s0,1;
            net = 1
            tape g2,2,0,10
            net = -1000109
            tape g2,2,0,1
            net = -1000107
            fault = 2
            tape g2,2,0,10;
            net = 0
            tape g2,2,0,10;c0,1;
            net = 0
            tape g2,2,0,10;
            net = 0
            count 4 = 4
            # A tape that is full, without its last sign.
            new
            tape g4,4,0,20;c10,1;c10,2;c10,03;{s10,11;*15}s10,11
            count 6 = 140
            feed 59 = FULL
            net = -1000240
            fault = 1
            """);
    }

    private static void faultsByNumber() {
        Edges.says("2 a NUMBER that is not as told", """
            fails g5,2,0,10; = 1 2
            fails g2,2,3,10; = 5 2
            fails g2,2,0,9; = 7 2
            fails g2,2,0,10;c4,1; = 11 2
            fails g2,2,0,10;c0,3; = 13 2
            fails g2,2,0,10;s4,1; = 11 2
            fails g2,2,0,10;s1,1; = 13 2
            """);
        Edges.says("3 a letter more than there is room for (its sort).", """
            fails g2,2,0,10;{s0,1;*16}s0,1; = 90 3
            fails g2,2,0,10;{x0,1;*16}h = 90 3
            fails g2,2,0,10;{t0,1;*16}o9,9; = 90 3
            fails g2,2,0,10;c0,1;{s0,2;*16}x0,2; = 95 3
            reads g2,2,0,10;{s0,1;*16} = 16
            write 1 0 1 = 16
            """);
    }
}
