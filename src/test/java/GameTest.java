/** Promises 1 to 3, 10 to 16 and 28: games, their nodes, what is let and what ko bars. */
public final class GameTest {
    private static final int NONE = StoneRoom.NONE;
    private static final String KO_SHAPE = Check.drawn(".XO..", "XO.O.", ".XO..", ".....", ".....");

    private final Check check = new Check();

    public static void main(String[] args) {
        GameTest test = new GameTest();
        test.newObject();
        test.begins();
        test.koRules();
        test.statuses();
        test.simpleKo();
        test.simpleKoBehindSets();
        test.superKo();
        test.situationalKo();
        test.passesAndOver();
        test.plays();
        test.goesBackAndOn();
        test.fullTree();
        test.tellsNodes();
        test.tellsPoints();
        test.counts();
        test.check.close("GameTest");
    }

    private void newObject() {
        StoneRoom x = new StoneRoom();
        int[] due = {1, 0, 9, 0, 1, 0, 0, 0, 0, 1};
        for (int what = 0; what < due.length; what++) {
            check.due("1: new, count(" + what + ")", x.count(what), due[what]);
        }
        check.due("1: new, time(1, 0)", x.time(1, 0), 0);
        check.due("1: new, time(2, 1)", x.time(2, 1), 0);
        check.due("1: new, time(2, 2)", x.time(2, 2), 0);
        check.due("1: new, place()", x.place(), NONE);
        check.due("1: new, octet(0)", x.octet(0), NONE);
        check.due("1: new, steps(0)", x.steps(0), NONE);
        check.due("1: new, node(0, 1)", x.node(0, 1), 0);
    }

    private void begins() {
        StoneRoom x = new StoneRoom();
        x.play(0);
        int[][] wrong = {{2, 0}, {10, 0}, {-1, 0}, {5, 201}, {5, -201}, {Integer.MAX_VALUE, 0}, {5, Integer.MIN_VALUE}};
        for (int[] pair : wrong) {
            check.due("2: begin(" + pair[0] + ", " + pair[1] + ")", x.begin(pair[0], pair[1]), false);
            check.due("2: nodes stay", x.count(0), 2);
            check.due("2: size stays", x.count(2), 9);
        }
        check.due("2: begin(3, -200)", x.begin(3, -200), true);
        check.due("2: size", x.count(2), 3);
        check.due("2: komi", x.count(3), -200);
        check.due("2: nodes", x.count(0), 1);
        check.due("2: the board is empty", x.count(7), 0);
        check.due("2: begin(9, 200)", x.begin(9, 200), true);
        check.due("2: komi", x.count(3), 200);
        x.ko(2);
        x.clocks(7, 0, 0);
        Check.lay(x, "abc");
        x.begin(4, 0);
        check.due("2: KO is no part of the game", x.count(9), 2);
        check.due("2: nor are clocks", x.time(1, 0), 7);
        check.due("2: nor is the tape", x.count(8), 3);
    }

    private void koRules() {
        StoneRoom x = new StoneRoom();
        check.due("3: ko(2)", x.ko(2), 1);
        check.due("3: ko(3)", x.ko(3), NONE);
        check.due("3: ko(-1)", x.ko(-1), NONE);
        check.due("3: ko(0)", x.ko(0), 2);
        check.due("3: ko(1)", x.ko(1), 0);
        check.due("3: count(9)", x.count(9), 1);
    }

    private void statuses() {
        StoneRoom x = Check.roomOf(Check.drawn(".O.", "O.O", ".X."));
        check.due("10: let(-2)", x.let(-2), 1);
        check.due("10: let(9)", x.let(9), 1);
        check.due("10: let(max)", x.let(Integer.MAX_VALUE), 1);
        check.due("10: let(min)", x.let(Integer.MIN_VALUE), 1);
        check.due("10: let(1)", x.let(1), 2);
        check.due("10: suicide in the corner", x.let(0), 3);
        check.due("10: no suicide with a friend", x.let(4), 0);
        check.due("10: a pass", x.let(NONE), 0);
        check.due("10: let does nothing", x.count(0), 1);
        StoneRoom y = Check.roomOf(Check.drawn(".OX", "OX.", "X.."));
        check.due("10: what takes is no suicide", y.let(0), 0);
        check.due("11: play(0)", y.play(0), 0);
        check.due("16: taken", y.at(1) + y.at(3), 0);
        check.due("15: took", y.node(1, 8), 2);
    }

    /** Black takes at 7 (column 2, row 1) what stands at 6. */
    private StoneRoom withKoTaken(int rule) {
        StoneRoom x = Check.roomOf(KO_SHAPE);
        x.ko(rule);
        check.due("11: black takes the ko", x.play(7), 0);
        check.due("16: it is taken", x.at(6), 0);
        return x;
    }

    private void simpleKo() {
        for (int rule = 0; rule <= 2; rule++) {
            StoneRoom x = withKoTaken(rule);
            check.due("10: KO " + rule + " bars taking back", x.let(6), 4);
            check.due("11: play of it", x.play(6), 4);
            check.due("28: nothing is done", x.count(1), 1);
            x.play(24);
            x.play(20);
            check.due("10: KO " + rule + " after moves elsewhere", x.let(6), 0);
        }
    }

    private void simpleKoBehindSets() {
        // White's stone at ee is taken off by a SET, and put back by a play: the board is as at the SET's parent.
        String text = "(;SZ[5]AB[aa]AW[ee];B[ba];AE[ee])";
        StoneRoom x = Check.roomOf(text);
        x.to(2);
        check.due("15: the SET keeps the turn", x.node(2, 7), 2);
        x.ko(0);
        check.due("10: KO 0 looks behind a PLAY alone", x.let(24), 0);
        x.ko(1);
        check.due("10: KO 1 looks at all", x.let(24), 4);
        x.ko(2);
        check.due("10: KO 2 with another turn", x.let(24), 0);
        StoneRoom y = Check.roomOf("(;SZ[5]AB[aa]AW[ee];W[ed];AE[ee];B[];)");
        y.to(3);
        y.ko(2);
        check.due("10: KO 2 with the same turn", y.let(24), 4);
    }

    private void superKo() {
        // Sending two, returning one: the board is as at node 1 again, but it is the other's turn.
        String text = "(;SZ[5]AB[ab][bb];AW[ba][da][cb])";
        for (int rule = 0; rule <= 2; rule++) {
            StoneRoom x = Check.roomOf(text);
            x.to(1);
            x.ko(rule);
            check.due("11: white adds a stone", x.play(0), 0);
            check.due("11: black takes two", x.play(2), 0);
            check.due("15: took", x.node(3, 8), 2);
            check.due("10: white takes one back, KO " + rule, x.let(1), rule == 1 ? 4 : 0);
            check.due("11: white takes one back, KO " + rule, x.play(1), rule == 1 ? 4 : 0);
        }
    }

    private void situationalKo() {
        // A board of before, with the other turn: black sets up by passes.
        StoneRoom x = Check.roomOf(KO_SHAPE);
        x.ko(2);
        x.play(7);
        x.play(NONE);
        x.play(NONE);
        check.due("28: two passes end the game", x.count(5), 1);
        check.due("10: KO comes ahead of OVER", x.let(6), 4);
        StoneRoom y = Check.roomOf("(;SZ[5]AB[ba][ab][bc]AW[ca][db][cc][bb]PL[W];B[cb];B[];W[])");
        y.to(3);
        check.due("10: over", y.let(24), 5);
    }

    private void passesAndOver() {
        StoneRoom x = new StoneRoom();
        check.due("11: play(NONE)", x.play(NONE), 0);
        check.due("28: over", x.count(5), 0);
        check.due("28: turn", x.count(4), 2);
        x.play(NONE);
        check.due("28: over", x.count(5), 1);
        check.due("10: let(NONE)", x.let(NONE), 5);
        check.due("10: let(0)", x.let(0), 5);
        check.due("10: let(81)", x.let(81), 1);
        check.due("11: play(0)", x.play(0), 5);
        check.due("28: turn", x.count(4), 1);
        x.back(1);
        check.due("28: over", x.count(5), 0);
        x.play(4);
        x.play(NONE);
        check.due("28: one pass behind a play", x.count(5), 0);
        StoneRoom y = Check.roomOf("(;B[];B[];B[aa];W[];)");
        int[] over = {0, 1, 0, 0, 0};
        for (int node = 0; node < over.length; node++) {
            y.to(node);
            check.due("28: over at " + node, y.count(5), over[node]);
        }
    }

    private void plays() {
        StoneRoom x = new StoneRoom();
        x.begin(5, 0);
        check.due("11: play(12)", x.play(12), 0);
        check.due("11: play(12) again", x.play(12), 2);
        check.due("11: play(13)", x.play(13), 0);
        check.due("28: nodes", x.count(0), 3);
        check.due("28: place", x.count(1), 2);
        x.back(1);
        check.due("11: play(13) that is there", x.play(13), 0);
        check.due("28: nodes", x.count(0), 3);
        check.due("28: place", x.count(1), 2);
        x.back(1);
        check.due("11: play(14)", x.play(14), 0);
        check.due("28: place", x.count(1), 3);
        StoneRoom y = Check.roomOf("(;SZ[5](;W[aa])(;B[aa])(;B[aa])(;W[])(;B[]))");
        check.due("11: the least child that is this move", y.play(0), 0);
        check.due("28: place", y.count(1), 2);
        y.to(0);
        check.due("11: the pass of the right colour", y.play(NONE), 0);
        check.due("28: place", y.count(1), 5);
    }

    private void goesBackAndOn() {
        StoneRoom x = Check.roomOf("(;SZ[5];B[aa](;W[bb];B[cc])(;W[dd])(;W[ee]))");
        check.due("12: back(3) at the root", x.back(3), 0);
        check.due("14: to(3)", x.to(3), true);
        check.due("12: back(-1)", x.back(-1), NONE);
        check.due("12: back(min)", x.back(Integer.MIN_VALUE), NONE);
        check.due("28: place", x.count(1), 3);
        check.due("12: back(0)", x.back(0), 0);
        check.due("12: back(2)", x.back(2), 2);
        check.due("28: place", x.count(1), 1);
        check.due("16: at(6)", x.at(6), 0);
        check.due("13: on(3)", x.on(3), false);
        check.due("13: on(-1)", x.on(-1), false);
        check.due("13: on(max)", x.on(Integer.MAX_VALUE), false);
        check.due("13: on(2)", x.on(2), true);
        check.due("28: place", x.count(1), 5);
        check.due("13: on(0) without children", x.on(0), false);
        check.due("12: back(9)", x.back(9), 2);
        check.due("13: on(0)", x.on(0), true);
        check.due("13: on(0)", x.on(0), true);
        check.due("28: place", x.count(1), 2);
        check.due("16: at(6)", x.at(6), 2);
        check.due("14: to(6)", x.to(6), false);
        check.due("14: to(-1)", x.to(-1), false);
        check.due("28: place", x.count(1), 2);
        check.due("14: to(4)", x.to(4), true);
        check.due("16: at(18)", x.at(18), 2);
        check.due("16: at(6)", x.at(6), 0);
    }

    private void fullTree() {
        StoneRoom x = new StoneRoom();
        for (int i = 0; i < 249; i++) {
            // From the root, then from its first children, so that each move is a new one.
            x.to(i / 81);
            if (i % 81 != 0 && x.play(i % 81) == 2) {
                x.play(NONE);
            } else if (i % 81 == 0) {
                x.play(NONE);
            }
        }
        int filled = x.count(0);
        for (int node = 3; x.count(0) < 250; node++) {
            x.to(node);
            x.play(NONE);
            x.to(node);
            x.play(80 - node % 7);
        }
        check.due("the test's own way went on", filled > 200, true);
        check.due("28: nodes", x.count(0), 250);
        x.to(249);
        int free = x.at(40) == 0 ? 40 : 41;
        check.due("10: 250 nodes", x.let(free), 6);
        check.due("10: a pass too", x.let(NONE), 6);
        check.due("10: no point comes first", x.let(100), 1);
        check.due("11: play", x.play(free), 6);
        check.due("28: nodes", x.count(0), 250);
        x.to(0);
        check.due("10: a child that is there", x.let(5), 0);
        check.due("11: play", x.play(5), 0);
        check.due("28: place", x.node(x.count(1), 4), 5);
    }

    private void tellsNodes() {
        StoneRoom x = Check.roomOf("(;SZ[3]AB[ba][ab];W[aa](;B[bb])(;AW[cc];W[]))".replace("W[aa]", "W[cb]"));
        int[][] due = {
            // parent, kind, -, colour, point, children, depth, turn, took
            {NONE, 0, NONE, 0, NONE, 1, 0, 2, 0},
            {0, 1, NONE, 2, 5, 2, 1, 1, 0},
            {1, 1, NONE, 1, 4, 0, 2, 2, 0},
            {1, 0, NONE, 0, NONE, 1, 2, 1, 0},
            {3, 2, NONE, 2, NONE, 0, 3, 1, 0},
        };
        for (int node = 0; node < due.length; node++) {
            for (int what = 0; what <= 8; what++) {
                check.due("15: node(" + node + ", " + what + ")", x.node(node, what), due[node][what]);
            }
        }
        check.due("15: node(0, 9)", x.node(0, 9), NONE);
        check.due("15: node(0, -1)", x.node(0, -1), NONE);
        check.due("15: node(5, 0)", x.node(5, 0), NONE);
        check.due("15: node(-1, 7)", x.node(-1, 7), NONE);
        check.due("15: turn at a root with white too", Check.roomOf("(;AB[aa]AW[bb])").node(0, 7), 1);
        check.due("15: turn at a root with white alone", Check.roomOf("(;AW[bb])").node(0, 7), 1);
        check.due("15: turn at a root with AE alone", Check.roomOf("(;AE[bb])").node(0, 7), 1);
        check.due("15: turn at a root that plays", Check.roomOf("(;B[bb])").node(0, 7), 2);
        check.due("15: kind of a root that plays", Check.roomOf("(;B[bb])").node(0, 1), 1);
        check.due("15: turn at a root that passes", Check.roomOf("(;W[])").node(0, 7), 1);
    }

    private void tellsPoints() {
        StoneRoom x = Check.roomOf(Check.drawn("X..", "..O", "..."));
        check.due("16: at(0)", x.at(0), 1);
        check.due("16: at(5)", x.at(5), 2);
        check.due("16: at(8)", x.at(8), 0);
        check.due("16: at(9)", x.at(9), NONE);
        check.due("16: at(-1)", x.at(-1), NONE);
        check.due("16: at(max)", x.at(Integer.MAX_VALUE), NONE);
    }

    private void counts() {
        StoneRoom x = Check.roomOf("(;SZ[5]KM[-13]AB[aa][ba][cc]AW[ee])");
        int[] due = {1, 0, 5, -13, 1, 0, 3, 4, 0, 1};
        for (int what = 0; what < due.length; what++) {
            check.due("28: count(" + what + ")", x.count(what), due[what]);
        }
        check.due("28: count(10)", x.count(10), NONE);
        check.due("28: count(-1)", x.count(-1), NONE);
        check.due("28: a negative komi is no NONE by chance", Check.roomOf("(;KM[-2])").count(3), -2);
    }
}
