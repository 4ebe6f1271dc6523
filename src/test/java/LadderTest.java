/** Promises 20 and 21: ladders read out, and their steps. */
public final class LadderTest {
    private static final int NONE = StoneRoom.NONE;

    private final Check check = new Check();

    public static void main(String[] args) {
        LadderTest test = new LadderTest();
        test.refuses();
        test.oneLiberty();
        test.runsToTheEdge();
        test.meetsAStone();
        test.triesTheLesserFirst();
        test.takesBack();
        test.mindsKo();
        test.isUntold();
        test.keepsTheLatest();
        test.leavesTheGame();
        test.check.close("LadderTest");
    }

    private void ask(StoneRoom x, int point, int answer, int steps, int first) {
        check.due("20: ladder(" + point + ")", x.ladder(point), answer);
        check.due("21: steps(0)", x.steps(0), steps);
        check.due("21: steps(1)", x.steps(1), first);
    }

    private void refuses() {
        StoneRoom x = Check.roomOf(Check.drawn("...", ".X.", "..."));
        check.due("20: four liberties", x.ladder(4), NONE);
        check.due("20: an empty point", x.ladder(0), NONE);
        check.due("20: no point", x.ladder(9), NONE);
        check.due("20: no point", x.ladder(-1), NONE);
        check.due("21: ahead of any", x.steps(0), NONE);
        check.due("21: ahead of any", x.steps(1), NONE);
        check.due("20: three liberties", Check.roomOf(Check.drawn("...", "X..", "...")).ladder(3), NONE);
    }

    private void oneLiberty() {
        ask(Check.roomOf(Check.drawn("OX.", "...", "...")), 0, 1, 1, 3);
        // Even if the taker would have none of its own: it takes.
        ask(Check.roomOf(Check.drawn(".OX", "OX.", "X..")), 1, 1, 1, 0);
        ask(Check.roomOf("(;SZ[3]AB[aa]AW[ba])"), 0, 1, 1, 3);
    }

    private void runsToTheEdge() {
        // 1 is tried, the chain goes to 3, 4 is tried, the chain goes to 6 and has one liberty.
        ask(Check.roomOf(Check.drawn("X..", "...", "..O")), 0, 1, 4, 1);
        StoneRoom x = Check.roomOf(Check.drawn(".........", ".O.......", "OX.......", "O........", ".........",
            ".........", ".........", ".........", "........."));
        check.due("20: it runs down the board and is taken", x.ladder(19), 1);
        check.due("21: by its right liberty", x.steps(1), 20);
    }

    private void meetsAStone() {
        StoneRoom x = Check.roomOf(Check.drawn(".........", ".O.......", "OX.......", "O........", ".........",
            ".........", ".........", "......X..", "........."));
        check.due("20: a stone on the way breaks it", x.ladder(19), 0);
        check.due("21: no play takes", x.steps(1), NONE);
    }

    private void triesTheLesserFirst() {
        // In the middle of an edge both sides take; the lesser is told.
        StoneRoom x = Check.roomOf(Check.drawn("..X..", ".OO..", ".....", ".....", "....."));
        check.due("20: on the edge", x.ladder(2), 1);
        check.due("21: the lesser", x.steps(1), 1);
    }

    private void takesBack() {
        // Whichever liberty white plays on (13, then 17), black takes the stone at 11 by 10 and has two; then 11 is
        // suicide for white, and behind the other black joins its stones at 11.
        ask(Check.roomOf(Check.drawn(".....", ".XO..", ".OX..", ".X...", ".....")), 12, 0, 10, NONE);
        // Taking comes by points: behind 6 black takes three by 1.
        ask(Check.roomOf(Check.drawn("O..", "OXO", ".XX")), 4, 0, 6, NONE);
        // Black takes the stone at 4 by 5, its own liberty, which is not tried twice.
        ask(Check.roomOf(Check.drawn("XXXX", "..OO", "XOO.", ".XO.")), 0, 1, 2, 4);
    }

    private void mindsKo() {
        // Black has taken 5 by 2; white's 5 would take 2, but makes the board of before black's move.
        ask(Check.roomOf(Check.drawn("O..", "OXO", ".XX")), 8, 0, 6, NONE);
        for (int rule = 0; rule <= 2; rule++) {
            StoneRoom x = Check.roomOf(Check.drawn(".XO..", "XO.O.", ".XO..", ".....", "....."));
            x.ko(rule);
            ask(x, 6, 1, 1, 7);
            x.play(7);
            check.due("10: to take back is barred", x.let(6), 4);
            // But a ladder knows no move ahead of its own.
            ask(x, 7, 1, 1, 6);
        }
    }

    private void isUntold() {
        // The tree of this one has more than 600 plays.
        StoneRoom x = Check.roomOf(Check.drawn("...X...", ".......", "..X...O", ".......", "X......", ".O.....",
            ".X....."));
        ask(x, 43, 2, 600, NONE);
    }

    private void keepsTheLatest() {
        StoneRoom x = Check.roomOf(Check.drawn("OX.", "...", "..O"));
        x.ladder(0);
        x.ladder(4);
        x.ladder(99);
        x.begin(5, 0);
        check.due("21: of the latest that was not NONE", x.steps(0), 1);
        check.due("21: its play", x.steps(1), 3);
        check.due("21: another what", x.steps(2), NONE);
        check.due("21: another what", x.steps(-1), NONE);
    }

    private void leavesTheGame() {
        StoneRoom x = Check.roomOf(Check.drawn(".........", ".O.......", "OX.......", "O........", ".........", ".........",
            ".........", ".........", "........."));
        x.ladder(19);
        check.due("28: nodes", x.count(0), 1);
        check.due("28: stones", x.count(7), 4);
        check.due("28: turn", x.count(4), 1);
        check.due("16: at(20)", x.at(20), 0);
    }
}
