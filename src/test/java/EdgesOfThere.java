/** Promises 12 to 22: what there is. */
final class EdgesOfThere {
    private EdgesOfThere() {
    }

    static void all() {
        letter();
        node();
        at();
        box();
        rank();
        golden();
        log();
        sums();
        far();
        near();
        why();
    }

    private static void letter() {
        Edges.part("Promise 12");
        Edges.says("3 whether it WAITS (0), FLIES (1), is DELIVERED (2), LOST (3)", """
            reads g3,3,0,20;x6,2;h6,2; = 2
            letter 0 0..10 = 2 6 2 0 6 0 0 0 NONE NONE 0
            bless 1 = 1
            turn 3
            letter 0 0..10 = 2 6 2 1 5 3 0 6 2 NONE 0
            letter 1 0..10 = 5 6 2 1 0 2 0 1 2 NONE 1
            turn 3 = 2
            letter 0 0..10 = 2 6 2 2 NONE 4 0 8 NONE 4 0
            letter 1 0..10 = 5 6 2 2 NONE 4 0 2 NONE 5 0
            reads g2,2,0,10;c0,1;c0,2;t1,0; = 1
            bless 0 = 1
            turn 12
            letter 0 0..10 = 3 1 0 3 NONE 10 10 10 NONE 10 0
            """);
        Edges.says("4 the NODE where it is (NONE: DELIVERED, LOST), 5 AGE, 6 ASIDES, 7 WEIGHT", """
            reads g2,2,0,10;c2,0;c2,1;s0,1;s3,2; = 2
            letter 0..1 4 = 0 3
            turn 1
            letter 0..1 4 = 1 1
            turn 1 = 1
            letter 0..1 4 = NONE 3
            turn 9
            letter 0..1 4 = NONE
            letter 0..1 5 = 1 10
            letter 0..1 6 = 0 10
            letter 0..1 7 = 1 10
            """);
        Edges.says("8 the PORT by which it came to that NODE (NONE: it did not, or 4 is NONE)", """
            reads g2,2,0,10;s0,1; = 1
            letter 0 8 = NONE
            turn 1
            letter 0 8 = 3
            turn 1 = 1
            letter 0 8 = NONE
            # PORT 0 is one, too.
            reads g2,2,0,10;s0,2; = 1
            turn 1
            letter 0 8 = 0
            """);
        Edges.says("9 the TURN as it was when that began in which it was DELIVERED, LOST (NONE: neither)", """
            reads g2,2,0,10;c2,0;c2,1;s0,1;s3,2; = 2
            letter 0..1 9 = NONE
            turn 1
            letter 0..1 9 = NONE
            turn 1
            letter 0..1 9 = 1 NONE
            turn 50
            letter 0..1 9 = 1 10
            """);
        Edges.says("10 whether it is GOLDEN (1, 0).", """
            reads g2,2,0,10;s0,1;s0,1; = 2
            letter 0..1 10 = 0
            bless 1 = 1
            letter 0..1 10 = 0 1
            turn 3
            letter 0..1 10 = 0
            """);
        Edges.says("BAD.", """
            reads g2,2,0,10;s0,1; = 1
            letter -1 0..10 = BAD
            letter 1 0..10 = BAD
            letter MIN 0 = BAD
            letter MAX 0 = BAD
            letter 0 -1 = BAD
            letter 0 11 = BAD
            letter 0 MIN = BAD
            letter 0 MAX = BAD
            new
            letter 0 0 = BAD
            """);
    }

    private static void node() {
        Edges.part("Promise 13");
        Edges.says("0 how many FLY there, 1 its PORTS that have LINKS (bits), 2 how many WAIT in its box", """
            reads g3,3,0,20;s1,4;s3,4;s5,4;s7,4;s4,0;s4,0; = 6
            node 4 0..4 = 0 15 2 0 NONE
            turn 1
            node 4 0..4 = 4 15 1 0 NONE
            node 0 0..4 = 0 6 0 0 NONE
            cut 4 0
            cut 4 1
            cut 4 2
            cut 4 3
            node 4 1 = 0
            """);
        Edges.says("3 how many were DELIVERED there", """
            reads g2,2,0,20;s0,1;s0,1;s3,2; = 3
            node 0..3 3 = 0
            turn 2
            node 0..3 3 = 0 1 1 0
            turn 1
            node 0..3 3 = 0 2 1 0
            """);
        Edges.says("4 its PORT whose LINK was cut last (NONE: none was).", """
            reads g3,3,0,20;c0,1; = 0
            node 0..2 4 = 1 3 NONE
            cut 4 0
            node 1 4 = 2
            node 4 4 = 0
            cut 4 3
            node 4 4 = 3
            node 3 4 = 1
            mend 4 3
            mend 4 0
            node 4 4 = 3
            node 3 4 = 1
            undo = 3
            undo = 2
            undo = 1
            node 4 4 = 0
            node 3 4 = NONE
            # The last node of all.
            reads g4,4,0,20; = 0
            cut 15 0
            cut 15 3
            node 15 4 = 3
            undo = 1
            node 15 4 = 0
            undo = 0
            node 15 4 = NONE
            """);
        Edges.says("BAD.", """
            reads g2,2,0,10; = 0
            node -1 0..4 = BAD
            node 4 0..4 = BAD
            node MIN 0 = BAD
            node MAX 0 = BAD
            node 0 -1 = BAD
            node 0 5 = BAD
            node 0 MIN = BAD
            node 0 MAX = BAD
            reads g4,4,0,10; = 0
            node 15 1 = 9
            node 16 1 = BAD
            new
            node 0 0 = BAD
            """);
    }

    private static void at() {
        Edges.part("Promise 14");
        Edges.says("Of the letters that FLY at a NODE number i by RANK (0 on)", """
            reads g3,3,0,20;s1,4;h3,4;s5,4;x7,4; = 4
            turn 1
            at 4 0..4 = 3 0 2 1 NONE
            bless 1 = 1
            at 4 0..4 = 1 3 0 2 NONE
            """);
        Edges.says("NONE: not so many.", """
            reads g2,2,0,10;s0,1; = 1
            at 0 0 = NONE
            at 1 0 = NONE
            turn 1
            at 1 0..1 = 0 NONE
            at 1 MAX = NONE
            at 0 0 = NONE
            """);
        Edges.says("BAD.", """
            reads g2,2,0,10;s0,1; = 1
            at -1 0 = BAD
            at 4 0 = BAD
            at MIN 0 = BAD
            at MAX 0 = BAD
            at 0 -1 = BAD
            at 0 MIN = BAD
            new
            at 0 0 = BAD
            """);
    }

    private static void box() {
        Edges.part("Promise 15");
        Edges.says("Of the letters in the box of a NODE number i (0 on; the first one is put in first)", """
            reads g2,2,0,10;s0,1;s3,1;s0,1; = 3
            write 1 0 1 = 3
            box 0 0..3 = 0 2 3 NONE
            turn 1
            letter 0 3 = 1
            box 0 0..2 = 2 3 NONE
            turn 1
            letter 2 3 = 1
            box 0 0..1 = 3 NONE
            """);
        Edges.says("NONE: not so many.", """
            reads g2,2,0,10; = 0
            box 0..3 0 = NONE
            40 times write 1 3 0
            box 3 39..40 = 39 NONE
            box 3 MAX = NONE
            box 0 0 = NONE
            # What flies there is not in the box.
            reads g2,2,0,10;s0,3; = 1
            turn 1
            at 1 0 = 0
            box 0..3 0 = NONE
            """);
        Edges.says("BAD.", """
            reads g2,2,0,10;s0,1; = 1
            box -1 0 = BAD
            box 4 0 = BAD
            box MIN 0 = BAD
            box MAX 0 = BAD
            box 0 -1 = BAD
            box 0 MIN = BAD
            new
            box 0 0 = BAD
            """);
    }

    private static void rank() {
        Edges.part("Promise 16");
        Edges.says("Of all letters that FLY number i by RANK (0 on)", """
            reads g4,4,0,20;h0,15;s3,12;x12,3;s15,0;s15,0; = 5
            turn 2
            rank 0..5 = 2 1 3 0 4 NONE
            """);
        Edges.says("NONE: not so many.", """
            reads g2,2,0,10; = 0
            rank 0 = NONE
            write 1 0 1 = 0
            rank 0 = NONE
            turn 1
            rank 0..1 = 0 NONE
            rank MAX = NONE
            turn 1
            rank 0 = NONE
            """);
        Edges.says("BAD; STATE: no NET (ahead of BAD).", """
            reads g2,2,0,10;s0,1; = 1
            rank -1 = BAD
            rank MIN = BAD
            new
            rank 0 = STATE
            rank -1 = STATE
            """);
    }

    private static void golden() {
        Edges.part("Promise 17");
        Edges.says("GOLDEN letter i (0 on)", """
            reads g2,2,0,10;{s0,1;*4} = 4
            bless 3 = 1
            bless 0 = 2
            bless 2 = 3
            bless 1 = 4
            golden 0..4 = 3 0 2 1 NONE
            """);
        Edges.says("NONE: not so many.", """
            reads g2,2,0,10;s0,1; = 1
            golden 0 = NONE
            bless 0 = 1
            golden 0..1 = 0 NONE
            golden MAX = NONE
            """);
        Edges.says("BAD; STATE: no NET (ahead of BAD).", """
            reads g2,2,0,10;s0,1; = 1
            golden -1 = BAD
            golden MIN = BAD
            new
            golden 0 = STATE
            golden -1 = STATE
            """);
    }

    private static void log() {
        Edges.part("Promise 18");
        Edges.says("(0 on; by TURNS, in one TURN by NODES, rising)", """
            reads g3,3,0,20;s8,7;s0,1;s6,3;s0,2; = 4
            turn 10 = 4
            log 0..4 = 1 2 0 3 NONE
            """);
        Edges.says("NONE: not so many.", """
            reads g2,2,0,10;{s0,1;*16} = 16
            24 times write 1 3 2
            log 0 = NONE
            turn 2
            log 0..2 = 0 16 NONE
            turn 50
            log 38..40 = 38 39 NONE
            log MAX = NONE
            """);
        Edges.says("BAD; STATE: no NET (ahead of BAD).", """
            reads g2,2,0,10;s0,1; = 1
            log -1 = BAD
            log MIN = BAD
            new
            log 0 = STATE
            log -1 = STATE
            """);
    }

    private static void sums() {
        Edges.part("Promise 19");
        Edges.says("0 TURN, 1 how many were DELIVERED, 2 LOST, 3 ASIDES of all, together, 4 AGES", """
            reads g3,3,0,20;s3,5;o1,5;s0,1; = 3
            sums 0..5 = 0 0 0 0 0 NONE
            turn 2
            sums 0..5 = 2 1 0 1 5 1
            turn 3
            sums 0..5 = 5 3 0 1 7 4
            reads g2,2,0,10;c2,0;c2,1;s0,1;s3,2;s3,2; = 3
            turn 50
            sums 0..5 = 50 1 2 20 21 1
            """);
        Edges.says("5 the greatest AGE of one that was DELIVERED (NONE: none was).", """
            reads g2,2,0,10;c0,1;c0,2;s1,0; = 1
            sums 5 = NONE
            turn 5
            sums 5 = NONE
            turn 50
            sums 5 = NONE
            # The last one is not the oldest.
            reads g2,2,0,10;s0,3;s0,1; = 2
            turn 50
            sums 5 = 2
            """);
        Edges.says("BAD; STATE: no NET (ahead of BAD).", """
            reads g2,2,0,10;s0,1; = 1
            sums -1 = BAD
            sums 6 = BAD
            sums MIN = BAD
            sums MAX = BAD
            new
            sums 0..5 = STATE
            sums -1 = STATE
            sums 6 = STATE
            """);
    }

    private static void far() {
        Edges.part("Promise 20");
        Edges.says("FAR; NONE.", """
            reads g2,2,0,10;c0,1; = 0
            far 0 0..3 = 0 3 1 2
            far 3 3 = 0
            cut 0 2
            far 0 0..3 = 0 NONE NONE NONE
            """);
        Edges.says("BAD.", """
            reads g4,3,0,10; = 0
            far 11 0 = 5
            far -1 0 = BAD
            far 0 -1 = BAD
            far 12 0 = BAD
            far 0 12 = BAD
            far 12 12 = BAD
            far MIN 0 = BAD
            far 0 MAX = BAD
            new
            far 0 0 = BAD
            """);
    }

    private static void near() {
        Edges.part("Promise 21");
        Edges.says("NEAR PORTS of a letter where it is, in the order of its TASTE: number i (0 to 3)", """
            reads g4,4,1,20;s0,10;o0,10;s1,0; = 3
            near 0 0..3 = 1 3 0 2
            near 1 0..3 = 0 2 1 3
            near 2 0..3 = 3 NONE NONE NONE
            turn 1
            letter 0 4 = 1
            near 0 0..3 = 1 0 2 NONE
            """);
        Edges.says("NONE: not so many, or it is DELIVERED, LOST.", """
            reads g2,2,0,10;c2,0;c2,1;s0,1;s3,2; = 2
            near 0 0..3 = 1 NONE NONE NONE
            near 1 0..3 = NONE
            turn 12
            letter 0..1 3 = 2 3
            near 0 0..3 = NONE
            near 1 0..3 = NONE
            near 0 4 = BAD
            mend 2 1
            near 1 0..3 = NONE
            """);
        Edges.says("BAD.", """
            reads g4,4,1,20;s0,10; = 1
            near -1 0 = BAD
            near 1 0 = BAD
            near MIN 0 = BAD
            near MAX 0 = BAD
            near 0 -1 = BAD
            near 0 4 = BAD
            near 0 MIN = BAD
            near 0 MAX = BAD
            new
            near 0 0 = BAD
            """);
    }

    private static void why() {
        Edges.part("Promise 22");
        String lost = """
            reads g2,2,0,10;s0,3;s0,1; = 2
            turn 1
            cut 1 3
            cut 1 2
            turn 1
            letter 0..1 3 = 3 1
            """;
        Edges.says("cause i (0 the outermost): its kind (what = 0), its number (1)", lost + """
            why 0 0 0..1 = 1 1
            why 0 1 0..1 = 3 1
            why 0 2 0..1 = 4 2
            """);
        Edges.says("NONE: not so many, or it is not LOST.", lost + """
            why 0 3 0..1 = NONE
            why 0 MAX 0..1 = NONE
            why 1 0..3 0 = NONE
            why 1 0..3 1 = NONE
            # Old: two causes; delivered, and waiting: none.
            reads g2,2,0,10;c2,0;c2,1;s3,2;s0,1;s2,0; = 3
            why 0 0 0..1 = NONE
            turn 50
            why 0 1 0..1 = 2 10
            why 0 2 0..1 = NONE
            why 1 0..2 0 = NONE
            why 1 0..2 1 = NONE
            why 2 0..2 0 = NONE
            why 2 0..2 1 = NONE
            """);
        Edges.says("BAD.", lost + """
            why -1 0 0 = BAD
            why 2 0 0 = BAD
            why MIN 0 0 = BAD
            why MAX 0 0 = BAD
            why 0 -1 0 = BAD
            why 0 MIN 0 = BAD
            why 0 0 -1 = BAD
            why 0 0 2 = BAD
            why 0 0 MIN = BAD
            why 0 0 MAX = BAD
            why 1 -1 0 = BAD
            why 1 0 2 = BAD
            new
            why 0 0 0 = BAD
            """);
    }
}
