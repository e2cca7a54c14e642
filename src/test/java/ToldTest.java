/** Promises 1 to 5: a new object, feed, net, fault, undo. */
public final class ToldTest {
    private static final String HEAD = "g2,2,0,10;";

    public static void main(String[] args) {
        newObject();
        feed();
        netFaults();
        netFaultsOfCuts();
        netFaultsOfLetters();
        netStandsInPlace();
        netBeginsAnew();
        netRefusedChangesNothing();
        fault();
        undoEachAct();
        undoForgetsTheOldest();
        undoOfTurns();
        Check.end();
    }

    private static void newObject() {
        HotLetters x = new HotLetters();
        for (int what = 0; what <= 6; what++) {
            Check.due("new: count(" + what + ")", x.count(what), 0);
        }
        Check.due("new: fault()", x.fault(), 0);
        Check.due("new: undo()", x.undo(), Check.STATE);
        Check.due("new: write", x.write(0, 0, 0), Check.STATE);
        Check.due("new: turn", x.turn(0), Check.STATE);
        Check.due("new: help", x.help(), Check.STATE);
        Check.due("new: image", x.image(0), Check.STATE);
        Check.due("new: restore", x.restore(1), Check.STATE);
        Check.due("new: letter", x.letter(0, 0), Check.BAD);
        Check.due("new: node", x.node(0, 0), Check.BAD);
        Check.due("new: worst", x.worst(0, 1, 0), Check.BAD);
        Check.due("new: odds", x.odds(0, 0, 0, 0), Check.BAD);
    }

    private static void feed() {
        HotLetters x = new HotLetters();
        Check.due("feed(-1)", x.feed(-1), Check.BAD);
        Check.due("feed(256)", x.feed(256), Check.BAD);
        Check.due("feed(0)", x.feed(0), 1);
        Check.due("feed(255)", x.feed(255), 2);
        for (int i = 2; i < 140; i++) {
            Check.due("feed number " + i, x.feed(i), i + 1);
        }
        Check.due("feed(65), full", x.feed(65), Check.FULL);
        Check.due("feed(256), full", x.feed(256), Check.BAD);
        Check.due("count(6), full", x.count(6), 140);
        Check.due("net() of these", x.net(), -1000100);
        Check.due("feed(65), empty again", x.feed(65), 1);
    }

    /** Each text with the place and the number of its fault; NONE: how many letters it has. */
    private static void reads(String text, int place, int fault) {
        HotLetters x = new HotLetters();
        Check.feed(x, text);
        Check.due("net() of '" + text + "'", x.net(), -1000100 - place);
        Check.due("fault() of '" + text + "'", x.fault(), fault);
        Check.due("count(0) behind '" + text + "'", x.count(0), 0);
        Check.due("count(6) behind '" + text + "'", x.count(6), 0);
    }

    private static void readsWell(String text, int letters) {
        HotLetters x = new HotLetters();
        Check.feed(x, text);
        Check.due("net() of '" + text + "'", x.net(), letters);
        Check.due("fault() of '" + text + "'", x.fault(), 0);
    }

    private static void netFaults() {
        reads("", 0, 1);
        reads("s", 0, 1);
        reads("G2,2,0,10;", 0, 1);
        reads(" g2,2,0,10;", 0, 1);
        reads("2", 0, 1);
        reads("g", 1, 1);
        reads("g1,2,0,10;", 1, 2);
        reads("g5,2,0,10;", 1, 2);
        reads("g002,2,0,10;", 1, 1);
        reads("g,2,0,10;", 1, 1);
        reads("g2;2,0,10;", 2, 1);
        reads("g2,1,0,10;", 3, 2);
        reads("g2,5,0,10;", 3, 2);
        reads("g2,2,3,10;", 5, 2);
        reads("g2,2,0,9;", 7, 2);
        reads("g2,2,0,09;", 7, 2);
        reads("g2,2,0,100;", 7, 1);
        reads("g2,2,0,10", 9, 1);
        reads("g2,2,0,10,", 9, 1);
        reads("g9,9,9,9;", 1, 2);
        reads(HEAD + " ", 10, 1);
        reads(HEAD + "g", 10, 1);
        reads(HEAD + "S", 10, 1);
        reads(HEAD + (char) 233, 10, 1);
        readsWell(HEAD, 0);
        readsWell("g04,02,02,99;", 0);
        readsWell("g4,4,1,10;", 0);
    }

    private static void netFaultsOfCuts() {
        reads(HEAD + "c", 11, 1);
        reads(HEAD + "c4,0;", 11, 2);
        reads(HEAD + "c000,1;", 11, 1);
        reads(HEAD + "c0;1;", 12, 1);
        reads(HEAD + "c0,4;", 13, 2);
        reads(HEAD + "c0,0;", 13, 2);
        reads(HEAD + "c0,3;", 13, 2);
        reads(HEAD + "c0,1", 14, 1);
        reads(HEAD + "c0,1;c0,1;", 18, 2);
        reads(HEAD + "c0,1;c1,3;", 18, 2);
        reads("g2,2,1,10;c0,0;c2,2;", 18, 2);
        readsWell(HEAD + "c0,1;c0,2;c3,0;c03,03;", 0);
        readsWell("g2,2,2,10;c0,0;c0,1;c0,2;c0,3;", 0);
    }

    private static void netFaultsOfLetters() {
        String sixteen = "s0,1;".repeat(16);
        reads(HEAD + "s", 11, 1);
        reads(HEAD + "s4,0;", 11, 2);
        reads(HEAD + "ss", 11, 1);
        reads(HEAD + "s0", 12, 1);
        reads(HEAD + "s0,0;", 13, 2);
        reads(HEAD + "s0,4;", 13, 2);
        reads(HEAD + "s0,001;", 13, 1);
        reads(HEAD + "s0,1", 14, 1);
        reads(HEAD + "s0,1;c0,1;", 15, 1);
        reads(HEAD + "s0,1;a0,1;", 15, 1);
        reads(HEAD + "s0,1;;", 15, 1);
        reads(HEAD + sixteen + "s9,9;", 90, 3);
        reads(HEAD + sixteen + "h", 90, 3);
        reads(HEAD + sixteen + "z", 90, 1);
        reads(HEAD + sixteen + "c0,1;", 90, 1);
        readsWell(HEAD + sixteen, 16);
        HotLetters x = Check.told(HEAD + "s0,1;x0,2;t0,3;o1,0;h03,02;");
        for (int i = 0; i < 5; i++) {
            Check.due("kind of letter " + i, x.letter(i, 0), i + 1);
        }
        Check.due("from of letter 4", x.letter(4, 1), 3);
        Check.due("to of letter 4", x.letter(4, 2), 2);
    }

    private static void netStandsInPlace() {
        HotLetters x = Check.told(HEAD + "s0,1;");
        x.bless(0);
        x.turn(1);
        x.image(1);
        Check.due("acts ahead of net()", x.count(5), 2);
        Check.feed(x, "g3,4,1,12;c0,1;s0,5;o1,6;");
        Check.due("a second net()", x.net(), 2);
        Check.due("count(0)", x.count(0), 12);
        Check.due("count(1)", x.count(1), 2);
        Check.due("count(2)", x.count(2), 2);
        Check.due("count(4)", x.count(4), 23);
        Check.due("count(5)", x.count(5), 0);
        Check.due("undo()", x.undo(), Check.STATE);
        Check.due("sums(0)", x.sums(0), 0);
        Check.due("golden(0)", x.golden(0), Check.NONE);
        Check.due("node(0, 4)", x.node(0, 4), 1);
        Check.due("node(1, 4)", x.node(1, 4), 3);
        Check.due("node(2, 4)", x.node(2, 4), Check.NONE);
        Check.due("an image stays", x.restore(1), 1);
        Check.due("count(0) of the image", x.count(0), 4);
        Check.due("golden(0) of the image", x.golden(0), 0);
    }

    /** What was foretold, or fed, before leaves nothing behind. */
    private static void netBeginsAnew() {
        HotLetters x = Check.told(HEAD + "s0,1;s0,2;s0,3;");
        x.bless(2);
        x.turn(3);
        x.ends(0);
        x.drawn(3, 3, 0);
        Check.feed(x, "g2,2,0,10");
        Check.due("the ; of the text before is gone", x.net(), -1000109);
        x.next(0);
        Check.feed(x, HEAD + "s0,1;");
        Check.due("net()", x.net(), 1);
        Check.due("sums(0)", x.sums(0), 0);
        Check.due("golden(0)", x.golden(0), Check.NONE);
        Check.due("log(0)", x.log(0), Check.NONE);
        Check.due("letter(0, 3)", x.letter(0, 3), 0);
    }

    private static void netRefusedChangesNothing() {
        HotLetters x = Check.told(HEAD + "s0,3;");
        x.turn(1);
        Check.feed(x, "g4,4,0,10;c0,0;");
        Check.due("net() with a fault", x.net(), -1000113);
        Check.due("count(6)", x.count(6), 0);
        Check.due("count(0)", x.count(0), 4);
        Check.due("count(3)", x.count(3), 1);
        Check.due("sums(0)", x.sums(0), 1);
        Check.due("count(5)", x.count(5), 1);
        Check.due("undo()", x.undo(), 0);
    }

    private static void fault() {
        HotLetters x = new HotLetters();
        x.net();
        Check.due("fault() behind 1", x.fault(), 1);
        Check.feed(x, "g9");
        x.net();
        Check.due("fault() behind 2", x.fault(), 2);
        Check.feed(x, HEAD + "s0,1;".repeat(17));
        x.net();
        Check.due("fault() behind 3", x.fault(), 3);
        Check.feed(x, HEAD);
        Check.due("net() without a fault", x.net(), 0);
        Check.due("fault() stays", x.fault(), 3);
    }

    private static void undoEachAct() {
        HotLetters x = Check.told(HEAD + "c2,1;s0,3;");
        Check.due("write", x.write(2, 1, 2), 1);
        Check.due("bless", x.bless(1), 1);
        Check.due("unbless", x.unbless(1), 0);
        Check.due("cut", x.cut(0, 1), 2);
        Check.due("mend", x.mend(2, 1), 3);
        Check.due("turn", x.turn(1), 0);
        Check.due("count(5)", x.count(5), 6);
        Check.due("undo of turn", x.undo(), 5);
        Check.due("sums(0)", x.sums(0), 0);
        Check.due("letter 0 waits", x.letter(0, 3), 0);
        Check.due("undo of mend", x.undo(), 4);
        Check.due("count(4)", x.count(4), 2);
        Check.due("far(2, 3)", x.far(2, 3), Check.NONE);
        Check.due("undo of cut", x.undo(), 3);
        Check.due("count(4)", x.count(4), 3);
        Check.due("node(0, 4)", x.node(0, 4), Check.NONE);
        Check.due("far(0, 1)", x.far(0, 1), 1);
        Check.due("undo of unbless", x.undo(), 2);
        Check.due("golden(0)", x.golden(0), 1);
        Check.due("undo of bless", x.undo(), 1);
        Check.due("golden(0)", x.golden(0), Check.NONE);
        Check.due("undo of write", x.undo(), 0);
        Check.due("count(1)", x.count(1), 1);
        Check.due("box(1, 0)", x.box(1, 0), Check.NONE);
        Check.due("undo of none", x.undo(), Check.STATE);
        Check.due("write again", x.write(5, 2, 0), 1);
        Check.due("its kind", x.letter(1, 0), 5);
    }

    private static void undoForgetsTheOldest() {
        HotLetters x = Check.told(HEAD);
        for (int i = 0; i < 11; i++) {
            x.write(1, 0, 3);
            Check.due("count(5) behind act " + i, x.count(5), Math.min(i + 1, 8));
        }
        for (int left = 7; left >= 0; left--) {
            Check.due("undo()", x.undo(), left);
            Check.due("count(1)", x.count(1), 3 + left);
        }
        Check.due("undo() of what is forgotten", x.undo(), Check.STATE);
        Check.due("count(1)", x.count(1), 3);
        x.turn(50);
        Check.due("one more act", x.count(5), 1);
    }

    private static void undoOfTurns() {
        HotLetters x = Check.told(HEAD + "s0,3;s0,1;");
        x.turn(1);
        Check.due("turn(7)", x.turn(7), 2);
        Check.due("a turn of nothing", x.turn(3), 0);
        Check.due("undo() of nothing", x.undo(), 2);
        Check.due("sums(0)", x.sums(0), 8);
        Check.due("undo() of seven turns", x.undo(), 1);
        Check.due("sums(0)", x.sums(0), 1);
        Check.due("log(0)", x.log(0), Check.NONE);
        Check.due("letter(0, 4)", x.letter(0, 4), 1);
        Check.due("letter(1, 3)", x.letter(1, 3), 0);
        Check.due("refused, so no act", x.turn(51), Check.BAD);
        Check.due("count(5)", x.count(5), 1);
    }
}
