/** The document's Terms V, sentence by sentence: dead chains, area, territory, komi. */
public final class TermsScoreTest {
    private static final int NONE = StoneRoom.NONE;

    private final Check check = new Check();

    public static void main(String[] args) {
        TermsScoreTest test = new TermsScoreTest();
        test.deadIsToldByOneStone();
        test.deadEndsAsSomethingIsDone();
        test.deadStaysAsNothingIsDone();
        test.anEmptyBoardIsNobodys();
        test.areaOfOneColour();
        test.pointsOfBothAreNobodys();
        test.deadStonesCountAsEmpty();
        test.allStonesMayBeDead();
        test.territoryHasTakenStones();
        test.takenOnTheWayToThePlace();
        test.komiIsWhites();
        test.check.close("TermsScoreTest");
    }

    private void scores(String label, StoneRoom x, int... due) {
        for (int colour = 1; colour <= 2; colour++) {
            for (int what = 0; what < 4; what++) {
                check.due("V: " + label + ", score(" + colour + ", " + what + ")", x.score(colour, what),
                    due[4 * (colour - 1) + what]);
            }
        }
        int komi = x.count(3);
        check.due("V: " + label + ", ahead(0)", x.ahead(0), 2 * (due[0] - due[4]) - komi);
        check.due("V: " + label + ", ahead(1)", x.ahead(1), 2 * (due[1] - due[5]) - komi);
    }

    private static StoneRoom game() {
        // A play at the ROOT, two behind it, and two chains of each colour.
        return Check.roomOf("(;SZ[3]KM[3]AB[aa][ba][ac]AW[ca](;W[cc])(;B[bb];W[bc]))");
    }

    /** "CHAINS may be agreed to be DEAD (told by one of their stones" */
    private void deadIsToldByOneStone() {
        StoneRoom x = game();
        check.due("V: two stones", x.dead(1, true), 2);
        check.due("V: the one is", x.chain(0, 4), 1);
        check.due("V: the other too", x.chain(1, 4), 1);
        check.due("V: another chain of the colour is not", x.chain(6, 4), 0);
        check.due("V: nor the other colour's", x.chain(2, 4), 0);
        check.due("V: again", x.dead(0, true), 2);
        check.due("V: black's DEAD", x.score(1, 3), 2);
        check.due("V: no more", x.dead(0, false), 2);
        check.due("V: both no more", x.chain(1, 4), 0);
        check.due("V: no more again", x.dead(0, false), 2);
        check.due("V: none is DEAD", x.score(1, 3), 0);
        // Several at once, of both colours; the one is taken back alone.
        x.dead(0, true);
        x.dead(2, true);
        x.dead(6, true);
        check.due("V: black's three", x.score(1, 3), 3);
        check.due("V: white's one", x.score(2, 3), 1);
        x.dead(6, false);
        check.due("V: black's two", x.score(1, 3), 2);
        check.due("V: white's one still", x.score(2, 3), 1);
    }

    private StoneRoom marked() {
        StoneRoom x = game();
        x.dead(0, true);
        check.due("V: marked", x.chain(0, 4), 1);
        return x;
    }

    private void noneIsDead(String behind, StoneRoom x) {
        for (int p = 0; p < x.count(2) * x.count(2); p++) {
            if (x.at(p) > 0) {
                check.due("V: DEAD behind " + behind + " at " + p, x.chain(p, 4), 0);
            }
        }
        check.due("V: none DEAD behind " + behind, x.score(1, 3) + x.score(2, 3), 0);
    }

    /** "none is any more as soon as play(), back(), on(), to(), read(), begin() has done something" */
    private void deadEndsAsSomethingIsDone() {
        StoneRoom x = marked();
        check.due("V: play", x.play(5), 0);
        noneIsDead("play()", x);
        x = marked();
        check.due("V: play to a child that is there", x.play(8), 0);
        noneIsDead("play() to a child", x);
        x = marked();
        check.due("V: pass", x.play(NONE), 0);
        noneIsDead("a PASS", x);
        x = marked();
        check.due("V: on", x.on(1), true);
        noneIsDead("on()", x);
        x = marked();
        check.due("V: to", x.to(3), true);
        noneIsDead("to()", x);
        x.dead(0, true);
        check.due("V: back", x.back(1), 1);
        noneIsDead("back()", x);
        x = marked();
        check.due("V: read", Check.read(x, "(;SZ[3]AB[aa][ba][ac]AW[ca])"), 0);
        noneIsDead("read()", x);
        x = marked();
        check.due("V: begin", x.begin(3, 0), true);
        x.play(0);
        noneIsDead("begin()", x);
        // To the PLACE itself is true as well: it was gone to.
        x = marked();
        check.due("V: to the PLACE", x.to(0), true);
        noneIsDead("to() of the PLACE", x);
        // Nor do they come back with the PLACE.
        x = marked();
        x.on(0);
        x.back(1);
        noneIsDead("going on and back", x);
    }

    /** What was refused, or only asked, has done nothing. */
    private void deadStaysAsNothingIsDone() {
        StoneRoom x = marked();
        int before = x.count(0);
        check.due("V: play on a stone", x.play(0), 2);
        check.due("V: play on no point", x.play(9), 1);
        check.due("V: back(-1)", x.back(-1), NONE);
        check.due("V: back(0)", x.back(0), 0);
        check.due("V: back(1) at the ROOT", x.back(1), 0);
        check.due("V: on(2)", x.on(2), false);
        check.due("V: on(-1)", x.on(-1), false);
        check.due("V: to(4)", x.to(4), false);
        check.due("V: to(-1)", x.to(-1), false);
        check.due("V: read with a fault", Check.read(x, "(;SZ[3]AB[aa]x)"), 1);
        check.due("V: begin(2, 0)", x.begin(2, 0), false);
        check.due("V: begin(3, 201)", x.begin(3, 201), false);
        x.let(5);
        x.ladder(2);
        x.ko(0);
        x.write();
        x.clocks(1, 1, 1);
        x.clock(1, 1);
        x.feed(1, 2, 3, 4, 5);
        x.end(3);
        check.due("V: NODES", x.count(0), before);
        check.due("V: still DEAD", x.chain(0, 4), 1);
        check.due("V: still counted", x.score(1, 3), 2);
    }

    private void anEmptyBoardIsNobodys() {
        for (int size = 3; size <= 9; size++) {
            StoneRoom x = new StoneRoom();
            x.begin(size, 0);
            scores("an empty board of " + size, x, 0, 0, 0, 0, 0, 0, 0, 0);
            x.play(size);
            int all = size * size;
            scores("one stone on " + size, x, all, all - 1, 0, 0, 0, 0, 0, 0);
            x.play(size + 1);
            scores("one stone each on " + size, x, 1, 0, 0, 0, 1, 0, 0, 0);
        }
    }

    /** "of a colour its stones that are not DEAD, and empty POINTS from which ... its stones alone are come to" */
    private void areaOfOneColour() {
        StoneRoom x = Check.roomOf(Check.drawn(".X.O.", "XX.OO", "..X..", ".....", "....."));
        // The corners are black's and white's; the middle of the top and all below hang together.
        scores("corners", x, 4 + 1, 1, 0, 0, 3 + 1, 1, 0, 0);
    }

    private void pointsOfBothAreNobodys() {
        StoneRoom x = Check.roomOf(Check.drawn("X.O", "X.O", "X.O"));
        scores("a column between", x, 3, 0, 0, 0, 3, 0, 0, 0);
        StoneRoom y = Check.roomOf(Check.drawn("..XO.", "..XO.", "..XO.", "..XO.", "..XO."));
        scores("a wall", y, 15, 10, 0, 0, 10, 5, 0, 0);
    }

    /** "DEAD stones count as empty", "(also under DEAD stones)" */
    private void deadStonesCountAsEmpty() {
        StoneRoom x = Check.roomOf(Check.drawn("O.XO.", "..XO.", "..XO.", "..XO.", "..XOX"));
        scores("nobody DEAD", x, 6, 0, 0, 0, 6, 0, 0, 0);
        x.dead(0, true);
        scores("white's corner DEAD", x, 5 + 10 + 1, 10 + 1, 0, 0, 5, 0, 0, 1);
        x.dead(24, true);
        scores("black's corner DEAD too", x, 15, 10 + 1, 0, 1, 10, 5 + 1, 0, 1);
        x.dead(0, false);
        scores("white's no more", x, 5, 0, 0, 1, 5 + 1 + 5, 5 + 1, 0, 0);
    }

    private void allStonesMayBeDead() {
        StoneRoom x = Check.roomOf(Check.drawn("XX.", "...", ".OO"));
        x.dead(0, true);
        scores("black's all DEAD", x, 0, 0, 0, 2, 9, 7 + 2, 0, 0);
        x.dead(8, true);
        scores("all DEAD", x, 0, 2, 0, 2, 0, 2, 0, 2);
    }

    /** "and stones of the other colour that were TAKEN on the way to the PLACE, or are DEAD" */
    private void territoryHasTakenStones() {
        StoneRoom x = Check.roomOf("(;SZ[3]AB[ba]AW[aa];B[ab];W[cc];B[aa];W[bb])");
        scores("at the ROOT", x, 1, 0, 0, 0, 1, 0, 0, 0);
        x.to(1);
        scores("one TAKEN", x, 9, 7 + 1, 1, 0, 0, 0, 0, 0);
        x.to(4);
        scores("still one TAKEN", x, 3, 1, 1, 0, 2, 0, 0, 0);
        x.dead(8, true);
        scores("one TAKEN, one DEAD", x, 3, 2, 1, 0, 1, 0, 0, 1);
    }

    private void takenOnTheWayToThePlace() {
        // White takes one in the one branch, two in the other; what a SET takes off is not TAKEN.
        StoneRoom x = Check.roomOf("(;SZ[3]AB[aa]AW[ba](;W[ab])(;B[ab];W[bb];W[ac])(;AE[aa]))");
        int[] taken = {0, 1, 0, 0, 2, 0};
        for (int k = 0; k < taken.length; k++) {
            x.to(k);
            check.due("V: TAKEN by white on the way to " + k, x.score(2, 2), taken[k]);
            check.due("V: by black", x.score(1, 2), 0);
            check.due("V: node(" + k + ", 8)", x.node(k, 8), taken[k]);
        }
        // A PLAY of the ROOT is on every way.
        StoneRoom y = Check.roomOf("(;SZ[3]B[aa];W[ba];W[ab];B[cc];W[bb])");
        int[] later = {0, 0, 1, 1, 1};
        for (int k = 0; k < later.length; k++) {
            y.to(k);
            check.due("V: TAKEN on the way to " + k, y.score(2, 2), later[k]);
        }
    }

    /** "KOMI's halves are WHITE's." */
    private void komiIsWhites() {
        for (int komi : new int[] {-200, -13, -1, 0, 1, 13, 200}) {
            StoneRoom x = new StoneRoom();
            x.begin(3, komi);
            check.due("V: KOMI " + komi + " by AREA", x.ahead(0), -komi);
            check.due("V: KOMI " + komi + " by TERRITORY", x.ahead(1), -komi);
            check.due("V: no score has it", x.score(1, 0) + x.score(2, 0) + x.score(1, 1) + x.score(2, 1), 0);
            x.play(4);
            check.due("V: with 9 by AREA", x.ahead(0), 18 - komi);
            check.due("V: with 8 by TERRITORY", x.ahead(1), 16 - komi);
            check.due("V: another what", x.ahead(2), 0);
        }
    }
}
