/** Promises 17 to 19: chains, liberties, regions and the lives that need no answer. */
public final class ChainTest {
    private static final int NONE = StoneRoom.NONE;

    private final Check check = new Check();

    public static void main(String[] args) {
        ChainTest test = new ChainTest();
        test.chains();
        test.liberties();
        test.regions();
        test.twoEyesLive();
        test.oneEyeDoesNot();
        test.eyesShared();
        test.livesTogether();
        test.check.close("ChainTest");
    }

    private void chains() {
        StoneRoom x = Check.roomOf(Check.drawn("..X..", "XXX..", "..O..", ".OO.X", "....."));
        check.due("17: HEAD", x.chain(5, 0), 2);
        check.due("17: stones", x.chain(6, 1), 4);
        check.due("17: LIBERTIES", x.chain(2, 2), 6);
        check.due("17: it does not LIVE", x.chain(2, 3), 0);
        check.due("17: it is not DEAD", x.chain(2, 4), 0);
        check.due("17: white's HEAD", x.chain(16, 0), 12);
        check.due("17: white's stones", x.chain(16, 1), 3);
        check.due("17: a lone stone", x.chain(19, 1), 1);
        check.due("17: beside the edge", x.chain(19, 2), 3);
        check.due("17: an empty point", x.chain(0, 0), NONE);
        check.due("17: no point", x.chain(25, 1), NONE);
        check.due("17: no point", x.chain(-1, 1), NONE);
        check.due("17: another what", x.chain(2, 5), NONE);
        check.due("17: another what", x.chain(2, -1), NONE);
        check.due("28: chains", x.count(6), 3);
    }

    private void liberties() {
        StoneRoom x = Check.roomOf(Check.drawn("..X..", "XXX..", "..O..", ".OO.X", "....."));
        int[] due = {0, 1, 3, 8, 10, 11};
        for (int i = 0; i < due.length; i++) {
            check.due("18: liberty(5, " + i + ")", x.liberty(5, i), due[i]);
        }
        check.due("18: one more", x.liberty(5, 6), NONE);
        check.due("18: below", x.liberty(5, -1), NONE);
        check.due("18: max", x.liberty(5, Integer.MAX_VALUE), NONE);
        check.due("18: an empty point", x.liberty(0, 0), NONE);
        check.due("18: no point", x.liberty(25, 0), NONE);
    }

    private void regions() {
        StoneRoom x = Check.roomOf(Check.drawn(".X.O.", "XX...", ".....", "..X..", "....."));
        check.due("19: the corner's least point", x.region(1, 0, 0), 0);
        check.due("19: its points", x.region(1, 0, 1), 1);
        check.due("19: empty ones", x.region(1, 0, 2), 1);
        check.due("19: VITAL to one chain", x.region(1, 0, 3), 1);
        check.due("19: the rest's least point", x.region(1, 24, 0), 2);
        check.due("19: its points", x.region(1, 24, 1), 20);
        check.due("19: empty ones", x.region(1, 24, 2), 19);
        check.due("19: VITAL to none", x.region(1, 24, 3), 0);
        check.due("19: a white stone is in a region of black", x.region(1, 3, 0), 2);
        check.due("19: a black stone is in a region of white", x.region(2, 1, 1), 24);
        check.due("19: a stone of that colour", x.region(1, 1, 0), NONE);
        check.due("19: colour 0", x.region(0, 0, 0), NONE);
        check.due("19: colour 3", x.region(3, 0, 0), NONE);
        check.due("19: no point", x.region(1, 25, 0), NONE);
        check.due("19: no point", x.region(1, -1, 0), NONE);
        check.due("19: another what", x.region(1, 0, 4), NONE);
        check.due("19: another what", x.region(1, 0, -1), NONE);
        StoneRoom y = new StoneRoom();
        check.due("19: an empty board is one region", y.region(2, 80, 1), 81);
        check.due("19: VITAL to none", y.region(2, 80, 3), 0);
        // Each empty point of the region, the white stone's aside, is a liberty of the chain.
        StoneRoom z = Check.roomOf(Check.drawn(".O.X.", "XXXX.", ".....", ".....", "....."));
        check.due("19: a region with a stone in it", z.region(1, 1, 1), 3);
        check.due("19: empty ones", z.region(1, 1, 2), 2);
        check.due("19: VITAL", z.region(1, 1, 3), 1);
    }

    private void twoEyesLive() {
        StoneRoom x = Check.roomOf(Check.drawn(".X.X.", "XXXX.", ".....", ".....", "....."));
        check.due("17: two eyes", x.chain(1, 3), 1);
        StoneRoom y = Check.roomOf(Check.drawn(".X..X", "XXXXX", ".....", ".....", "....."));
        check.due("17: an eye of two points, both liberties", y.chain(1, 3), 1);
        StoneRoom z = Check.roomOf(Check.drawn(".O.O.", "OOOOO", "XXXX.", ".....", "....."));
        check.due("17: white, with a stone between", z.chain(1, 3), 1);
    }

    private void oneEyeDoesNot() {
        StoneRoom x = Check.roomOf(Check.drawn(".X...", "XX...", ".....", ".....", "....."));
        check.due("17: one eye", x.chain(1, 3), 0);
        // The middle of three rows of empty points is no liberty, so the second region is not vital.
        StoneRoom y = Check.roomOf(Check.drawn(".XXXX", "XX..X", "X...X", "X...X", "XXXXX"));
        check.due("17: a wide region is not vital", y.chain(1, 3), 0);
        StoneRoom z = Check.roomOf(Check.drawn(".XXXX", "XX..X", "X...X", "XX..X", "XXXXX"));
        check.due("17: nor one with its middle free", z.chain(1, 3), 0);
    }

    private void eyesShared() {
        // Two chains that share one eye in the middle, and have no other.
        StoneRoom x = Check.roomOf(Check.drawn(".X...", "X....", ".....", ".....", "....."));
        check.due("17: shared, and alone", x.chain(1, 3), 0);
        check.due("19: VITAL to both", x.region(1, 0, 3), 2);
    }

    private void livesTogether() {
        // Two chains, each with an eye of its own, that share another; and the same with one eye less.
        StoneRoom x = Check.roomOf(Check.drawn(".X.X.", "XX.XX", "..O..", ".....", "....."));
        check.due("17: the region between them is open", x.chain(1, 3), 0);
        StoneRoom t = Check.roomOf(Check.drawn(".X.X.X", "XX.XXX", "OXXOOO", "OOO...", "......", "......"));
        check.due("17: the left one, with its corner", t.chain(1, 3), 1);
        check.due("17: the right one, with its eye", t.chain(3, 3), 1);
        StoneRoom s = Check.roomOf(Check.drawn(".X.XXX", "XX.XXX", "OXXOOO", "OOO...", "......", "......"));
        check.due("17: the right one, without it", s.chain(3, 3), 0);
        check.due("17: and so the left one", s.chain(1, 3), 0);
        StoneRoom y = Check.roomOf(Check.drawn(".X.X.", "XX.XX", "XXXXX", ".....", "....."));
        check.due("17: all one chain", y.chain(1, 3), 1);
        StoneRoom z = Check.roomOf(Check.drawn(".X.X.", "X.X.X", ".X.X.", ".....", "....."));
        check.due("19: single stones share an eye", z.region(1, 6, 3), 4);
        check.due("17: stones whose eyes open to the rest go", z.chain(2 + 5, 3), 0);
        // The two chains share the eyes at the corners of the top, which are vital to both.
        StoneRoom w = Check.roomOf(Check.drawn(".XXX.", "X...X", "XXXXX", "OOOOO", "....."));
        check.due("17: three regions, all vital to the lower chain", w.chain(5, 3), 1);
        check.due("17: and to the upper one", w.chain(1, 3), 1);
        StoneRoom v = Check.roomOf(Check.drawn(".XXX.", "X...X", "XX.XX", "XXXXX", "....."));
        check.due("17: the lower chain reaches one point more", v.chain(5, 3), 1);
        check.due("17: the upper chain has the corners alone", v.chain(1, 3), 1);
        StoneRoom u = Check.roomOf(Check.drawn(".XX.O", "X.XOO", "XXXO.", "OOO..", "....."));
        check.due("17: two eyes, one in the middle", u.chain(1, 3), 1);
    }
}
