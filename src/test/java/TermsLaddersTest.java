/** The document's Terms IV on ladders, sentence by sentence: what TAKES and SAVED try, in which order, how often. */
public final class TermsLaddersTest {
    private static final int NONE = StoneRoom.NONE;

    private final Check check = new Check();

    public static void main(String[] args) {
        TermsLaddersTest test = new TermsLaddersTest();
        test.chainsHaveOneOrTwoLiberties();
        test.oneLibertyIsOneStep();
        test.theLesserPointIsFirst();
        test.cornersOfEverySize();
        test.theGreaterPointMayTake();
        test.aPlayThatIsNotLetIsAStep();
        test.threeLibertiesSave();
        test.oneLibertyDoesNotSave();
        test.takingIsTriedAheadOfRunning();
        test.theSamePlayIsNotTriedTwice();
        test.koZeroOfTheLine();
        test.noKoAtFirst();
        test.noOtherKo();
        test.theSixHundredthStepIsTried();
        test.turnOverAndNodesDoNotMatter();
        test.anyStoneTellsTheChain();
        test.check.close("TermsLaddersTest");
    }

    private void ask(StoneRoom x, int point, int answer, int steps, int first) {
        check.due("IV: ladder(" + point + ")", x.ladder(point), answer);
        check.due("IV: STEPS of " + point, x.steps(0), steps);
        check.due("IV: the first PLAY on " + point, x.steps(1), first);
    }

    private void ask(int point, int answer, int steps, int first, String... rows) {
        ask(Check.roomOf(Check.drawn(rows)), point, answer, steps, first);
    }

    private void chainsHaveOneOrTwoLiberties() {
        check.due("IV: four LIBERTIES", Check.roomOf(Check.drawn("...", ".X.", "...")).ladder(4), NONE);
        check.due("IV: three", Check.roomOf(Check.drawn(".O.", ".X.", "...")).ladder(4), NONE);
        check.due("IV: two", Check.roomOf(Check.drawn(".O.", "OX.", "...")).ladder(4), 0);
        check.due("IV: one", Check.roomOf(Check.drawn(".O.", "OXO", "...")).ladder(4), 1);
        check.due("IV: two, of two stones", Check.roomOf(Check.drawn("XX..", ".O..", "....", "....")).ladder(0), 1);
        check.due("IV: an edge has three", Check.roomOf(Check.drawn(".X.", "...", "...")).ladder(1), NONE);
        check.due("IV: a corner has two", Check.roomOf(Check.drawn("X..", "...", "...")).ladder(0), 1);
    }

    /** "one LIBERTY: yes, if the PLAY there is let" */
    private void oneLibertyIsOneStep() {
        ask(4, 1, 1, 7, ".O.", "OXO", "...");
        ask(0, 1, 1, 8, "XXX", "XXX", "XX.");
        // What takes has room, though nothing is empty around it.
        ask(0, 1, 1, 2, "OO.X", "XXX.", "....", "....");
    }

    /** "for one of them, the lesser POINT first" */
    private void theLesserPointIsFirst() {
        // By symmetry both take; 1 is tried, black runs to 3, 4 is tried, black runs to 6 and has one liberty.
        ask(0, 1, 4, 1, "X..", "...", "...");
        ask(8, 1, 4, 5, "...", "...", "..X");
    }

    /** Along each edge to its end, on every size: the last points of the largest board, too. All in one room. */
    private void cornersOfEverySize() {
        StoneRoom x = new StoneRoom();
        for (int size = 9; size >= 3; size--) {
            int last = size * size - 1;
            int[] corners = {last, 0, last + 1 - size, size - 1};
            int[] firsts = {last - size, 1, last + 1 - 2 * size, size - 2};
            for (int i = 0; i < corners.length; i++) {
                x.begin(size, 0);
                x.play(corners[i]);
                ask(x, corners[i], 1, 2 * (size - 1), firsts[i]);
            }
        }
    }

    private void theGreaterPointMayTake() {
        // 0 is tried, and white goes to 5, where it has three liberties; behind 5, white's 0 is suicide.
        ask(4, 1, 4, 5, ".X..", "O.O.", "X...", "..O.");
    }

    /** "Each PLAY that is tried, let or not, counts as a STEP" */
    private void aPlayThatIsNotLetIsAStep() {
        // Black's 0 is suicide; behind 4 white joins at 0 and has one liberty.
        ask(1, 1, 3, 4, ".OX", "O.X", "...");
    }

    /** "the chain then has three LIBERTIES or more" */
    private void threeLibertiesSave() {
        ask(12, 0, 4, NONE, ".....", "..O..", ".OX..", ".....", ".....");
        // In the corner it has two behind its first move, which do not save it yet.
        ask(0, 1, 4, 1, "X..", "...", "...");
    }

    /** "(A chain that has one LIBERTY behind its move is not saved by it.)" */
    private void oneLibertyDoesNotSave() {
        // Behind 1 black goes to 3, where 6 alone is free.
        ask(0, 1, 2, 1, "X..", ".O.", "...");
    }

    /** "PLAYS that take a CHAIN ... that is a neighbour of it and has one LIBERTY (by POINTS), then one on ... its own" */
    private void takingIsTriedAheadOfRunning() {
        // White tries 2: black takes it by 1; white's 2 is suicide, and behind 12 black takes 8 by 13, where 2 and 8 are
        // suicide. White tries 12: black takes 8 by 13; behind 2 it takes that by 1, where 2 and 8 are suicide; and 8 is
        // suicide. To run to 12 or to 2 would have had three liberties at once.
        ask(7, 0, 14, NONE, "...X.", ".OXOX", ".....", ".....", ".....");
    }

    /** "(not twice the same)" */
    private void theSamePlayIsNotTriedTwice() {
        ask(0, 1, 2, 4, "XXXX", "..OO", "XOO.", ".XO.");
    }

    /** "no KO but 0 of II, the last move being that of the line that is read" */
    private void koZeroOfTheLine() {
        ask(8, 0, 6, NONE, "O..", "OXO", ".XX");
        // Black takes 2 by 1; to take back by 2 makes the board of before, and 7 leaves one liberty.
        ask(0, 1, 3, 1, "O.O", "OOX", "O..");
    }

    /** "at first none" */
    private void noKoAtFirst() {
        for (int rule = 0; rule <= 2; rule++) {
            StoneRoom x = Check.roomOf(Check.drawn(".XO..", "XO.O.", ".XO..", ".....", "....."));
            x.ko(rule);
            x.play(7);
            check.due("IV: in the game it is barred", x.let(6), 4);
            ask(x, 7, 1, 1, 6);
        }
    }

    /** The boards of the game bar nothing in a ladder, and KO as it is set does not matter. */
    private void noOtherKo() {
        for (int rule = 0; rule <= 2; rule++) {
            StoneRoom x = Check.roomOf("(;SZ[3]AB[aa]AW[ba];AE[ba])");
            x.to(1);
            x.ko(rule);
            check.due("IV: TURN", x.count(4), 1);
            ask(x, 0, 1, 4, 1);
        }
    }

    /** "the 601st is not tried: all is UNTOLD then" */
    private void theSixHundredthStepIsTried() {
        ask(31, 1, 599, 32, ".....O", ".....X", "......", "X...X.", ".O....", ".X....");
        ask(9, 1, 600, 10, "O.X.....X", "X........", "......X..", ".........", ".........", "...X..X..", "...OO....",
            "O...X..O.", "......X..");
        ask(11, 0, 600, NONE, "...X.O", ".....X", "X.....", "......", "X.....", "X..O..");
        // These would be told with 601: by 9 it is taken, and not at all.
        ask(2, 2, 600, NONE, "XXO...O", ".O....X", "..X....", ".......", ".......", "X.O.X..", ".......");
        ask(44, 2, 600, NONE, ".......", ".O.....", ".X.....", ".......", "......X", "OOX....", "..O....");
        ask(11, 2, 600, NONE, "...O.X", ".....O", "......", ".O....", "......", ".O.X..");
        // The next one counts anew.
        StoneRoom x = Check.roomOf(Check.drawn("...O.X", ".....O", "......", ".O....", "......", ".O.X.."));
        ask(x, 11, 2, 600, NONE);
        ask(x, 5, 1, 1, 4);
        ask(x, 11, 2, 600, NONE);
    }

    /** The other colour moves, whosever TURN it is; nothing is played in the game. */
    private void turnOverAndNodesDoNotMatter() {
        StoneRoom x = Check.roomOf("(;SZ[3]AB[aa];B[];W[](" + ";".repeat(247) + "))");
        check.due("IV: NODES", x.count(0), 250);
        for (int node = 0; node <= 2; node++) {
            x.to(node);
            ask(x, 0, 1, 4, 1);
        }
        check.due("IV: OVER", x.count(5), 1);
        check.due("IV: NODES", x.count(0), 250);
        check.due("IV: the BOARD", x.count(7), 1);
    }

    private void anyStoneTellsTheChain() {
        for (int stone : new int[] {0, 1, 2, 3}) {
            ask(stone, 1, 2, 4, "XXXX", "..OO", "XOO.", ".XO.");
        }
    }
}
