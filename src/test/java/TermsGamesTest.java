/** The document's Terms II, sentence by sentence: nodes, turns, ko, games that are over, STATUS. */
public final class TermsGamesTest {
    private static final int NONE = StoneRoom.NONE;
    /** Black takes 6 by 7; then 0 is suicide for white, and 6 would take back. */
    private static final String KO_SHAPE = "(;SZ[5]AB[ba][ab][bc]AW[bb][ca][db][cc]";

    private final Check check = new Check();

    public static void main(String[] args) {
        TermsGamesTest test = new TermsGamesTest();
        test.nodesAreNumberedAsTheyCome();
        test.theLastNodeIsThe250th();
        test.aGameOfPlaysHas250Nodes();
        test.aFullGameGoesToItsChildren();
        test.theRootHasNoParent();
        test.boardsAreTheParentsBehindWhatANodeDoes();
        test.turnAtTheRoot();
        test.turnBehindMovesAndSets();
        test.koIsOneAtFirst();
        test.koZeroLooksOneNodeBack();
        test.koZeroLooksBehindAPlayAlone();
        test.koOneLooksFromTheRoot();
        test.koOneLooksTheLongestWay();
        test.koOneLooksAtNoOtherBranch();
        test.koTwoLooksAtTurns();
        test.overIsBehindTwoPasses();
        test.overIsThereAlone();
        test.theLeastStatusHolds();
        test.aPassIsLetButForOverAndFull();
        test.check.close("TermsGamesTest");
    }

    private static String nodes(int many) {
        return ";".repeat(many);
    }

    /** "A GAME is a tree of NODES, 0 (the ROOT) and on by the order in which they came" */
    private void nodesAreNumberedAsTheyCome() {
        StoneRoom x = new StoneRoom();
        check.due("II: a game has its ROOT", x.count(0), 1);
        check.due("II: the PLACE is the ROOT", x.count(1), 0);
        x.play(0);
        x.play(1);
        x.back(2);
        x.play(2);
        check.due("II: the third that came", x.count(1), 3);
        check.due("II: its PARENT", x.node(3, 0), 0);
        x.to(1);
        x.play(3);
        check.due("II: the fourth that came", x.count(1), 4);
        check.due("II: its PARENT", x.node(4, 0), 1);
        check.due("II: NODES", x.count(0), 5);
    }

    /** "250 at most" */
    private void theLastNodeIsThe250th() {
        for (int point = NONE; point <= 0; point++) {
            StoneRoom x = Check.roomOf("(;SZ[5]" + nodes(248) + ")");
            check.due("II: 249 NODES", x.count(0), 249);
            check.due("II: the 250th is let", x.let(point), 0);
            check.due("II: the 250th is played", x.play(point), 0);
            check.due("II: it is the PLACE", x.count(1), 249);
            check.due("II: 250 NODES", x.count(0), 250);
            check.due("II: the 251st is not let", x.let(1), 6);
            check.due("II: the 251st is not played", x.play(1), 6);
            check.due("II: nor a PASS", x.play(NONE), 6);
            check.due("II: still 250 NODES", x.count(0), 250);
            check.due("II: still the PLACE", x.count(1), 249);
            check.due("II: no stone more", x.count(7), point == NONE ? 0 : 1);
        }
        check.due("II: a text of 250 NODES", Check.read(new StoneRoom(), "(" + nodes(250) + ")"), 0);
        check.due("II: a text of 251 NODES", Check.read(new StoneRoom(), "(" + nodes(251) + ")"), 6);
    }

    /** The ROOT has 81 plays and a PASS behind it, its first child 80 and a PASS; 2 calls a node, 504 in all. */
    private void aGameOfPlaysHas250Nodes() {
        StoneRoom x = new StoneRoom();
        int made = 1;
        for (int parent = 0; made < 250; parent++) {
            for (int point = NONE; point < 81 && made < 250; point++) {
                if (parent == 0 || point != parentsPoint(parent)) {
                    x.to(parent);
                    check.due("II: play " + point + " behind " + parent, x.play(point), 0);
                    made++;
                }
            }
        }
        check.due("II: NODES", x.count(0), 250);
        check.due("II: the 251st", x.play(80), 6);
        check.due("II: the last one's number", x.count(1), 249);
    }

    /** The children of the ROOT are a PASS, which is 1, then the plays on 0 and on. */
    private static int parentsPoint(int parent) {
        return parent == 1 ? -2 : parent - 2;
    }

    /** "6 there are 250 NODES, and the move is none of the children" */
    private void aFullGameGoesToItsChildren() {
        StoneRoom x = Check.roomOf("(;SZ[5](;B[aa])(;B[])(;W[cc])(" + nodes(246) + "))");
        check.due("II: 250 NODES", x.count(0), 250);
        check.due("II: a child that is there", x.let(0), 0);
        check.due("II: a PASS that is there", x.let(NONE), 0);
        check.due("II: a move of the other colour is another move", x.let(12), 6);
        check.due("II: a move that is not there", x.let(1), 6);
        check.due("II: play of a child", x.play(0), 0);
        check.due("II: the PLACE", x.count(1), 1);
        check.due("II: a leaf has none", x.let(NONE), 6);
        x.to(0);
        check.due("II: play of the PASS", x.play(NONE), 0);
        check.due("II: the PLACE", x.count(1), 2);
        check.due("II: NODES", x.count(0), 250);
    }

    /** "each but the ROOT has a PARENT" */
    private void theRootHasNoParent() {
        StoneRoom x = Check.roomOf("(;SZ[5]B[aa];W[bb](;B[cc])(;B[dd]))");
        int[] parents = {NONE, 0, 1, 1};
        for (int k = 0; k < parents.length; k++) {
            check.due("II: PARENT of " + k, x.node(k, 0), parents[k]);
        }
        x.to(3);
        check.due("II: back ends at the ROOT", x.back(99), 2);
        check.due("II: the PLACE", x.count(1), 0);
    }

    private void board(StoneRoom x, int node, String stones) {
        x.to(node);
        StringBuilder seen = new StringBuilder();
        for (int p = 0; p < stones.length(); p++) {
            seen.append(x.at(p));
        }
        check.due("II: the BOARD at " + node, seen.toString(), stones);
    }

    /** "The BOARD at a NODE is that of its PARENT (of the ROOT: all empty) behind what it does." */
    private void boardsAreTheParentsBehindWhatANodeDoes() {
        StoneRoom x = Check.roomOf("(;SZ[3]AE[aa]AB[bb](;W[ab];B[aa];W[];AW[cc]AE[bb]AB[ab];)(;AW[bb]))");
        board(x, 0, "000010000");
        board(x, 1, "000210000");
        board(x, 2, "100210000");
        board(x, 3, "100210000");
        board(x, 4, "100100002");
        board(x, 5, "100100002");
        board(x, 6, "000020000");
        board(x, 0, "000010000");
        board(Check.roomOf("(;SZ[3]AE[aa][cc])"), 0, "000000000");
        board(Check.roomOf("(;SZ[3])"), 0, "000000000");
        board(Check.roomOf("(;SZ[3]W[cc])"), 0, "000000002");
    }

    private void turn(String text, int due) {
        StoneRoom x = Check.roomOf(text);
        check.due("II: TURN at the ROOT of " + text, x.count(4), due);
        check.due("II: node(0, 7) of " + text, x.node(0, 7), due);
    }

    /** "at the ROOT BLACK's, or WHITE's if it SETS black stones and no white one" */
    private void turnAtTheRoot() {
        turn("(;)", 1);
        turn("(;AB[aa])", 2);
        turn("(;AB[aa][bb])", 2);
        turn("(;AB[aa]AE[bb])", 2);
        turn("(;AB[aa]AW[bb])", 1);
        turn("(;AW[bb]AB[aa][cc])", 1);
        turn("(;AW[bb])", 1);
        turn("(;AE[bb])", 1);
        turn("(;B[aa])", 2);
        turn("(;W[aa])", 1);
        turn("(;B[])", 2);
        turn("(;W[])", 1);
        check.due("II: a new object's", new StoneRoom().count(4), 1);
        StoneRoom x = Check.roomOf("(;AB[aa])");
        x.begin(5, 0);
        check.due("II: behind begin()", x.count(4), 1);
    }

    /** "behind a PLAY or PASS the other colour's; ... behind another SET that of its PARENT" */
    private void turnBehindMovesAndSets() {
        StoneRoom x = Check.roomOf("(;SZ[5];AB[aa];B[bb];AW[cc];W[];AB[dd];W[ee];B[];)");
        int[] turns = {1, 1, 2, 2, 1, 1, 1, 2, 2};
        for (int k = 0; k < turns.length; k++) {
            x.to(k);
            check.due("II: TURN at " + k, x.count(4), turns[k]);
            check.due("II: node(" + k + ", 7)", x.node(k, 7), turns[k]);
        }
        x.to(3);
        x.play(24);
        check.due("II: a play behind a SET is of its TURN", x.at(24), 2);
    }

    /** "KO (0, 1 or 2; 1 at first)" */
    private void koIsOneAtFirst() {
        StoneRoom x = new StoneRoom();
        check.due("II: KO", x.count(9), 1);
        check.due("II: what it was", x.ko(1), 1);
    }

    private StoneRoom withKoTaken(int rule) {
        StoneRoom x = Check.roomOf(KO_SHAPE + ")");
        x.ko(rule);
        check.due("II: black takes", x.play(7), 0);
        return x;
    }

    /** "0: as at the PARENT of the NODE that it comes behind" and no further. */
    private void koZeroLooksOneNodeBack() {
        for (int rule = 0; rule <= 2; rule++) {
            StoneRoom x = withKoTaken(rule);
            check.due("II: KO " + rule + " bars to take back at once", x.let(6), 4);
            check.due("II: KO " + rule + ", play", x.play(6), 4);
            x.play(NONE);
            x.play(NONE);
            check.due("II: KO " + rule + " two passes later", x.let(6), rule == 0 ? 5 : 4);
        }
        // White's second stone at aa is taken with its first, and played again: the BOARD is that of three PLAYS ago.
        StoneRoom y = Check.roomOf("(;SZ[5]AB[ab][bb];AW[ba][da][cb];W[aa];B[ca])");
        y.to(3);
        int[] due = {0, 4, 0};
        for (int rule = 0; rule <= 2; rule++) {
            y.ko(rule);
            check.due("II: KO " + rule + " with the BOARD of two NODES ahead of the PARENT", y.let(1), due[rule]);
        }
    }

    /** "if that one is a PLAY": not behind a SET, though the BOARD would be its PARENT's. */
    private void koZeroLooksBehindAPlayAlone() {
        StoneRoom x = Check.roomOf("(;SZ[3]AB[aa]AW[cc];AE[aa])");
        x.to(1);
        int[] due = {0, 4, 0};
        for (int rule = 0; rule <= 2; rule++) {
            x.ko(rule);
            check.due("II: behind a SET, KO " + rule, x.let(0), due[rule]);
        }
    }

    /** "1: as at any NODE from the ROOT to where it is played", whosever TURN. */
    private void koOneLooksFromTheRoot() {
        // The SETS make the boards 1, then 2, then 3 stones less; plays put them back.
        String text = "(;SZ[3]AB[aa]AW[cc];AB[ba];AE[ba];)";
        StoneRoom x = Check.roomOf(text);
        x.to(3);
        check.due("II: TURN", x.count(4), 1);
        check.due("II: as at NODE 1", x.let(1), 4);
        check.due("II: as at no NODE", x.let(4), 0);
        StoneRoom y = Check.roomOf("(;SZ[3]AB[aa]AW[cc];AE[aa];AB[ba];AE[ba];;)");
        y.to(5);
        check.due("II: as at the ROOT", y.let(0), 4);
        check.due("II: as at NODE 2", y.let(1), 4);
        y.to(1);
        check.due("II: NODE 2 comes later", y.let(1), 0);
        y.to(0);
        check.due("II: at the ROOT itself", y.let(1), 0);
    }

    /** The longest way there is: the ROOT's BOARD, 250 NODES long. */
    private void koOneLooksTheLongestWay() {
        StoneRoom x = Check.roomOf("(;SZ[3]AB[aa]AW[cc];AE[aa]" + nodes(248) + ")");
        check.due("II: NODES", x.count(0), 250);
        x.to(249);
        check.due("II: NODES ahead", x.node(249, 6), 249);
        check.due("II: as at the ROOT", x.let(0), 4);
        check.due("II: as at no NODE", x.let(1), 6);
    }

    private void koOneLooksAtNoOtherBranch() {
        StoneRoom x = Check.roomOf("(;SZ[3](;B[aa];W[bb];B[cc])(;B[cc];W[bb]))");
        x.to(5);
        check.due("II: the other branch has that BOARD", x.let(0), 0);
        check.due("II: play", x.play(0), 0);
    }

    /** "2: likewise, with the same TURN (behind it)" */
    private void koTwoLooksAtTurns() {
        // Behind W[cc] it is BLACK's TURN, as it is at the ROOT, which has that BOARD.
        StoneRoom x = Check.roomOf("(;SZ[3]AB[aa]AW[cc];B[];AE[cc])");
        x.to(2);
        check.due("II: TURN", x.count(4), 2);
        x.ko(2);
        check.due("II: KO 2, the same TURN", x.let(8), 4);
        // Behind B[aa] it is WHITE's TURN; at the ROOT it was BLACK's.
        StoneRoom y = Check.roomOf("(;SZ[3]AB[aa]AW[cc];AE[aa])");
        y.to(1);
        y.ko(2);
        check.due("II: KO 2, another TURN", y.let(0), 0);
        y.ko(1);
        check.due("II: KO 1 does not ask for it", y.let(0), 4);
        // The BOARD is there twice, with either TURN.
        StoneRoom z = Check.roomOf("(;SZ[3]AB[aa]AW[cc];B[];W[bb];AE[aa][bb])");
        z.to(3);
        z.ko(2);
        check.due("II: TURN", z.count(4), 1);
        check.due("II: the PASS made the TURN WHITE's with that BOARD", z.let(0), 4);
    }

    /** "A GAME is OVER behind two PASSES, one behind the other" */
    private void overIsBehindTwoPasses() {
        StoneRoom x = Check.roomOf("(;SZ[5];B[];W[];B[];W[aa];B[];;W[];W[bb];B[];B[])");
        int[] over = {0, 0, 1, 1, 0, 0, 0, 0, 0, 0, 1};
        for (int k = 0; k < over.length; k++) {
            x.to(k);
            check.due("II: OVER at " + k, x.count(5), over[k]);
            check.due("II: let at " + k, x.let(24), 5 * over[k]);
            check.due("II: a PASS at " + k, x.let(NONE), 5 * over[k]);
        }
        StoneRoom y = Check.roomOf("(;B[];W[])");
        check.due("II: one PASS, of the ROOT", y.count(5), 0);
        y.to(1);
        check.due("II: two, the ROOT's being one", y.count(5), 1);
    }

    /** "then nothing is played there" */
    private void overIsThereAlone() {
        StoneRoom x = new StoneRoom();
        x.begin(3, 0);
        x.play(NONE);
        x.play(NONE);
        check.due("II: play where it is OVER", x.play(0), 5);
        check.due("II: PASS where it is OVER", x.play(NONE), 5);
        check.due("II: NODES", x.count(0), 3);
        check.due("II: the PLACE", x.count(1), 2);
        x.back(1);
        check.due("II: one back it is not", x.play(0), 0);
        check.due("II: OVER no more", x.count(5), 0);
        // What a text tells behind the end is gone to, but not by play().
        StoneRoom y = Check.roomOf("(;SZ[3];B[];W[];B[aa])");
        y.to(2);
        check.due("II: a child that is there is not played", y.play(0), 5);
        check.due("II: but gone on to", y.on(0), true);
        check.due("II: and played on from", y.play(4), 0);
    }

    private void statuses(String label, StoneRoom x, int free) {
        check.due("II: 1 " + label, x.let(25), 1);
        check.due("II: 1 " + label, x.let(-2), 1);
        check.due("II: 2 " + label, x.let(7), 2);
        check.due("II: 3 " + label, x.let(0), 3);
        check.due("II: 4 " + label, x.let(6), 4);
        check.due("II: free " + label, x.let(24), free);
        check.due("II: a PASS " + label, x.let(NONE), free);
        check.due("II: play of a free one " + label, x.play(24), free);
    }

    /** "the least that holds" */
    private void theLeastStatusHolds() {
        StoneRoom plain = Check.roomOf(KO_SHAPE + ";B[cb])");
        plain.to(1);
        statuses("of a game", plain, 0);
        StoneRoom over = Check.roomOf(KO_SHAPE + ";B[cb];W[];B[])");
        over.to(3);
        statuses("where it is OVER", over, 5);
        StoneRoom full = Check.roomOf(KO_SHAPE + ";B[cb](" + nodes(248) + "))");
        full.to(1);
        check.due("II: NODES", full.count(0), 250);
        statuses("of 250 NODES", full, 6);
        StoneRoom both = Check.roomOf(KO_SHAPE + ";B[cb];W[];B[](" + nodes(246) + "))");
        both.to(3);
        check.due("II: NODES", both.count(0), 250);
        statuses("where it is OVER, of 250 NODES", both, 5);
    }

    /** "(A PASS is let, but for 5, 6.)" */
    private void aPassIsLetButForOverAndFull() {
        // A PASS makes the BOARD of its PARENT again, which no KO bars.
        for (int rule = 0; rule <= 2; rule++) {
            StoneRoom x = Check.roomOf("(;SZ[3]AB[aa];;W[];W[bb])");
            x.ko(rule);
            for (int k = 0; k <= 3; k++) {
                x.to(k);
                check.due("II: a PASS at " + k + ", KO " + rule, x.let(NONE), 0);
            }
        }
    }
}
