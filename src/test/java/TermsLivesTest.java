/** The document's Terms IV, sentence by sentence: regions, what is vital, and lives by Benson. */
public final class TermsLivesTest {
    private static final int NONE = StoneRoom.NONE;

    private final Check check = new Check();

    public static void main(String[] args) {
        TermsLivesTest test = new TermsLivesTest();
        test.regionsAreWithoutStonesOfTheColour();
        test.regionsHangTogetherByNeighbours();
        test.anEmptyBoardIsOneRegion();
        test.vitalNeedsEachEmptyPoint();
        test.stonesInARegionNeedNotTouch();
        test.vitalToSeveralAndToNone();
        test.livesWithTwoAndNotWithOne();
        test.aSharedRegionCountsForEach();
        test.chainsGoAgainAndAgain();
        test.aRegionGoesWithAChainBesideIt();
        test.aRegionHasNeighboursByAllItsPoints();
        test.anotherBoardLeavesNothing();
        test.oneGoesAlone();
        test.theOtherColourLivesByItsOwnRegions();
        test.theMostChains();
        test.check.close("TermsLivesTest");
    }

    private void region(StoneRoom x, int colour, int point, int... due) {
        for (int what = 0; what < 4; what++) {
            check.due("IV: region(" + colour + ", " + point + ", " + what + ")", x.region(colour, point, what), due[what]);
        }
    }

    private void lives(StoneRoom x, int point, int due) {
        check.due("IV: chain(" + point + ", 3)", x.chain(point, 3), due);
    }

    /** "REGIONS of a colour: POINTS without its stones": the other's stones are in them. */
    private void regionsAreWithoutStonesOfTheColour() {
        StoneRoom x = Check.roomOf(Check.drawn(".XO", "XXO", "..O"));
        region(x, 1, 0, 0, 1, 1, 1);
        region(x, 1, 2, 2, 5, 2, 1);
        region(x, 1, 8, 2, 5, 2, 1);
        region(x, 2, 1, 0, 6, 3, 0);
        check.due("IV: its own stone is in none", x.region(1, 1, 0), NONE);
        check.due("IV: white's own", x.region(2, 2, 0), NONE);
    }

    /** "neighbours of one another, as many as hang together": not over corners, not over the edge. */
    private void regionsHangTogetherByNeighbours() {
        StoneRoom x = Check.roomOf(Check.drawn(".X.", "X.X", ".X."));
        for (int point = 0; point < 9; point += 2) {
            region(x, 1, point, point, 1, 1, point == 4 ? 4 : 2);
        }
        StoneRoom y = Check.roomOf(Check.drawn(".X.", ".X.", ".X."));
        region(y, 1, 6, 0, 3, 3, 1);
        region(y, 1, 2, 2, 3, 3, 1);
    }

    private void anEmptyBoardIsOneRegion() {
        for (int size = 3; size <= 9; size++) {
            StoneRoom x = new StoneRoom();
            x.begin(size, 0);
            region(x, 1, size * size - 1, 0, size * size, size * size, 0);
            region(x, 2, 0, 0, size * size, size * size, 0);
            x.play(0);
            region(x, 1, size, 1, size * size - 1, size * size - 1, 0);
            region(x, 2, size, 0, size * size, size * size - 1, 0);
        }
    }

    /** "if it has empty POINTS, and each of these is a LIBERTY of the CHAIN" */
    private void vitalNeedsEachEmptyPoint() {
        StoneRoom x = Check.roomOf(Check.drawn("..X..", "XXX..", ".....", ".....", "....."));
        region(x, 1, 0, 0, 2, 2, 1);
        // The corner is no liberty.
        StoneRoom y = Check.roomOf(Check.drawn("..X..", "..X..", "XXX..", ".....", "....."));
        region(y, 1, 0, 0, 4, 4, 0);
        // Three in a row are.
        StoneRoom z = Check.roomOf(Check.drawn("...X.", "XXXX.", ".....", ".....", "....."));
        region(z, 1, 0, 0, 3, 3, 1);
    }

    private void stonesInARegionNeedNotTouch() {
        // White's stone in the corner stands where the chain has no liberty.
        StoneRoom x = Check.roomOf(Check.drawn("O.X..", "..X..", "XXX..", ".....", "....."));
        region(x, 1, 0, 0, 4, 3, 1);
        StoneRoom y = Check.roomOf(Check.drawn(".OX..", "..X..", "XXX..", ".....", "....."));
        region(y, 1, 1, 0, 4, 3, 0);
    }

    private void vitalToSeveralAndToNone() {
        StoneRoom x = Check.roomOf(Check.drawn(".X.", "X..", "..."));
        region(x, 1, 0, 0, 1, 1, 2);
        region(x, 1, 4, 2, 6, 6, 0);
        // One of two empty points is the one chain's, both are the other's.
        StoneRoom y = Check.roomOf(Check.drawn("..X..", "XO...", ".....", ".....", "....."));
        check.due("IV: white's stone joins it to the rest", y.region(1, 0, 1), 23);
        StoneRoom z = Check.roomOf(Check.drawn("..X..", "XX.X.", ".....", ".....", "....."));
        region(z, 1, 0, 0, 2, 2, 1);
    }

    /** "a CHAIN to which fewer than two REGIONS that are left are VITAL" */
    private void livesWithTwoAndNotWithOne() {
        lives(Check.roomOf(Check.drawn("XX.", "...", "...")), 0, 0);
        lives(Check.roomOf(Check.drawn(".X...", "XX...", ".....", ".....", ".....")), 1, 0);
        lives(Check.roomOf(Check.drawn(".X.X.", "XXXX.", ".....", ".....", ".....")), 1, 1);
        lives(Check.roomOf(Check.drawn(".X.X.", "XXXXX", ".....", ".....", ".....")), 1, 1);
        // The rest of the board may be the second, if each of its points is a liberty.
        lives(Check.roomOf(Check.drawn(".X.", "XXX", "...")), 1, 1);
        lives(Check.roomOf(Check.drawn("...", "XXX", "...")), 3, 1);
        lives(Check.roomOf(Check.drawn("....", "XXXX", "....", "....")), 4, 0);
        // Two regions, of which one is not vital.
        lives(Check.roomOf(Check.drawn("..X.X", "..X.X", "XXXXX", ".....", ".....")), 2, 0);
    }

    private void aSharedRegionCountsForEach() {
        StoneRoom x = Check.roomOf(Check.drawn(".X.", "X.X", ".X."));
        for (int stone = 1; stone < 9; stone += 2) {
            lives(x, stone, 1);
        }
        // Without one of the four, the open side is vital to none.
        StoneRoom y = Check.roomOf(Check.drawn(".X.", "X..", ".X."));
        for (int stone : new int[] {1, 3, 7}) {
            lives(y, stone, 0);
        }
    }

    /** "again and again": four chains, each of which shares an eye with the next. */
    private void chainsGoAgainAndAgain() {
        String[] rows = {".X.......", "XXX......", ".X.X.....", "..XXX....", "...X.X...", "....XXX..", ".....X.X.",
            "......XXX", ".......X."};
        StoneRoom whole = Check.roomOf(Check.drawn(rows));
        for (int middle = 10; middle <= 70; middle += 20) {
            lives(whole, middle, 1);
        }
        // Without the last eye the last chain goes, with it the eye that it shares, and so on to the first.
        rows[8] = ".......XX";
        StoneRoom broken = Check.roomOf(Check.drawn(rows));
        check.due("IV: the first chain's regions are VITAL to it as before", broken.region(1, 0, 3), 1);
        for (int middle = 10; middle <= 70; middle += 20) {
            lives(broken, middle, 0);
        }
    }

    /** "a REGION that has a neighbour in a CHAIN that is gone" */
    private void aRegionGoesWithAChainBesideIt() {
        // The eye at 2 is the corner chain's and the lone stone's; the stone has no other.
        StoneRoom x = Check.roomOf(Check.drawn(".X.X.", "XXX..", ".....", ".....", "....."));
        check.due("IV: vital to both", x.region(1, 2, 3), 2);
        lives(x, 3, 0);
        lives(x, 1, 0);
        // Joined to it, it lives with it.
        StoneRoom y = Check.roomOf(Check.drawn(".X.X.", "XXXX.", ".....", ".....", "....."));
        lives(y, 3, 1);
        // A third eye is enough without the one that goes.
        StoneRoom z = Check.roomOf(Check.drawn(".X.X.", "XXX..", ".X...", "XX...", "....."));
        lives(z, 3, 0);
        lives(z, 1, 1);
    }

    /** By whichever of its POINTS the REGION has that neighbour. */
    private void aRegionHasNeighboursByAllItsPoints() {
        // The eye of two points is VITAL to the chain of five; the lone stone touches one end of it, and goes.
        StoneRoom left = Check.roomOf(Check.drawn("X..X.", ".XXXX", ".....", ".....", "....."));
        check.due("IV: VITAL to the one", left.region(1, 1, 3), 1);
        lives(left, 0, 0);
        lives(left, 3, 0);
        StoneRoom right = Check.roomOf(Check.drawn(".X..X", "XXXX.", ".....", ".....", "....."));
        check.due("IV: VITAL to the one", right.region(1, 2, 3), 1);
        lives(right, 4, 0);
        lives(right, 1, 0);
        // Without the lone stone, and with the end closed, it lives.
        lives(Check.roomOf(Check.drawn(".X..X", "XXXXX", ".....", ".....", ".....")), 1, 1);
    }

    /** What was asked on another board does not show. */
    private void anotherBoardLeavesNothing() {
        StoneRoom x = Check.roomOf(Check.drawn(".X.X.", "X.X.X", ".X.X.", "X.X.X", ".X.X."));
        lives(x, 1, 1);
        lives(x, 23, 1);
        check.due("IV: read", Check.read(x, Check.drawn(".X.X.", "XXXX.", ".....", ".....", ".....")), 0);
        lives(x, 1, 1);
        region(x, 1, 0, 0, 1, 1, 1);
        region(x, 1, 24, 4, 17, 17, 0);
        check.due("IV: read", Check.read(x, Check.drawn(".X.", "X.X", ".X.")), 0);
        lives(x, 7, 1);
    }

    /** Of the most chains, with one stone less, one goes: the others beside its regions have two without them. */
    private void oneGoesAlone() {
        StringBuilder set = new StringBuilder();
        for (int p = 1; p < 81; p += 2) {
            set.append(p == 79 ? "" : Check.value(9, p));
        }
        StoneRoom x = Check.roomOf("(;AB" + set + ")");
        for (int p = 1; p < 79; p += 2) {
            lives(x, p, p == 71 ? 0 : 1);
        }
    }

    private void theOtherColourLivesByItsOwnRegions() {
        StoneRoom x = Check.roomOf(Check.drawn(".O.OX", "OOOOX", "XXXXX", "X.X.X", "XXXX."));
        lives(x, 1, 1);
        lives(x, 4, 1);
        StoneRoom y = Check.roomOf(Check.drawn(".OXO.", "OOXOO", "..X..", ".....", "....."));
        lives(y, 1, 0);
        lives(y, 3, 0);
        lives(y, 2, 0);
    }

    /** 41 regions and 40 chains, and the other way round: the most that 81 points have. */
    private void theMostChains() {
        for (int first = 0; first <= 1; first++) {
            StringBuilder set = new StringBuilder();
            for (int p = first; p < 81; p += 2) {
                set.append(Check.value(9, p));
            }
            StoneRoom x = Check.roomOf("(;AW" + set + ")");
            check.due("IV: CHAINS", x.count(6), first == 0 ? 41 : 40);
            for (int p = first; p < 81; p += 2) {
                lives(x, p, 1);
            }
            check.due("IV: the last region", x.region(2, first == 0 ? 79 : 80, 3), first == 0 ? 3 : 2);
            check.due("IV: one in the middle", x.region(2, first == 0 ? 41 : 40, 3), 4);
        }
    }
}
