import java.util.ArrayList;
import java.util.List;

/** The document's Terms I, sentence by sentence: boards, points, neighbours, chains, and what a play does. */
public final class TermsBoardsTest {
    private static final int NONE = StoneRoom.NONE;

    private final Check check = new Check();

    public static void main(String[] args) {
        TermsBoardsTest test = new TermsBoardsTest();
        test.sizesAreThreeToNine();
        test.pointsEndWithTheBoard();
        test.pointsGoRowByRow();
        test.neighboursStopAtTheEdges();
        test.edgesAreNotJoined();
        test.aPointIsEmptyOrHasAStone();
        test.chainsAreOfOneColour();
        test.cornersTouchNobody();
        test.aLibertyIsCountedOnce();
        test.theHeadIsTheLeastPoint();
        test.allChainsWithoutLibertiesAreTaken();
        test.aChainWithALibertyStays();
        test.takingComesAheadOfSuicide();
        test.suicideOfOneAndOfMany();
        test.aFullBoardIsTakenWhole();
        test.check.close("TermsBoardsTest");
    }

    private static StoneRoom begun(int size) {
        StoneRoom x = new StoneRoom();
        x.begin(size, 0);
        return x;
    }

    /** "BOARDS have SIZE n, 3 to 9" */
    private void sizesAreThreeToNine() {
        for (int size = -2; size <= 12; size++) {
            boolean is = size >= 3 && size <= 9;
            StoneRoom x = new StoneRoom();
            check.due("I: begin(" + size + ", 0)", x.begin(size, 0), is);
            check.due("I: SIZE behind begin(" + size + ", 0)", x.count(2), is ? size : 9);
            StoneRoom y = new StoneRoom();
            check.due("I: SZ[" + size + "]", Check.read(y, "(;SZ[" + size + "])"), is ? 0 : 3);
            check.due("I: SIZE behind SZ[" + size + "]", y.count(2), is ? size : 9);
        }
    }

    /** "POINTS are 0 .. n * n - 1" */
    private void pointsEndWithTheBoard() {
        for (int size = 3; size <= 9; size++) {
            int last = size * size - 1;
            StoneRoom x = begun(size);
            check.due("I: at(-1) of " + size, x.at(-1), NONE);
            check.due("I: at(0) of " + size, x.at(0), 0);
            check.due("I: at the last of " + size, x.at(last), 0);
            check.due("I: at behind the last of " + size, x.at(last + 1), NONE);
            check.due("I: let(0) of " + size, x.let(0), 0);
            check.due("I: let the last of " + size, x.let(last), 0);
            check.due("I: let behind the last of " + size, x.let(last + 1), 1);
            check.due("I: play behind the last of " + size, x.play(last + 1), 1);
            check.due("I: play(0) of " + size, x.play(0), 0);
            check.due("I: play the last of " + size, x.play(last), 0);
            check.due("I: it stands there", x.at(last), 2);
            check.due("I: the region has all the rest of " + size, x.region(1, last, 1), last);
        }
    }

    /** "row by row" */
    private void pointsGoRowByRow() {
        for (int size = 3; size <= 9; size++) {
            char most = (char) ('a' + size - 1);
            StoneRoom x = Check.roomOf("(;SZ[" + size + "]AB[aa][" + most + "a]AW[ab][" + most + most + "])");
            check.due("I: aa of " + size, x.at(0), 1);
            check.due("I: the first row's end of " + size, x.at(size - 1), 1);
            check.due("I: the second row's start of " + size, x.at(size), 2);
            check.due("I: the last of " + size, x.at(size * size - 1), 2);
        }
    }

    private static List<Integer> neighbours(int size, int point) {
        List<Integer> list = new ArrayList<>();
        for (int other = 0; other < size * size; other++) {
            int rows = Math.abs(other / size - point / size);
            int columns = Math.abs(other % size - point % size);
            if (rows + columns == 1) {
                list.add(other);
            }
        }
        return list;
    }

    /** "NEIGHBOURS are those above, below, beside": four in the middle, three at an edge, two in a corner. */
    private void neighboursStopAtTheEdges() {
        for (int size = 3; size <= 9; size++) {
            for (int point = 0; point < size * size; point++) {
                StoneRoom x = begun(size);
                x.play(point);
                List<Integer> due = neighbours(size, point);
                check.due("I: neighbours of " + point + " of " + size, x.chain(point, 2), due.size());
                for (int i = 0; i < due.size(); i++) {
                    check.due("I: neighbour " + i + " of " + point + " of " + size, x.liberty(point, i), due.get(i));
                }
                check.due("I: no more of " + point + " of " + size, x.liberty(point, due.size()), NONE);
            }
        }
    }

    /** A row's end and the next row's start, and the ends of a column, are no neighbours. */
    private void edgesAreNotJoined() {
        for (int size = 3; size <= 9; size++) {
            int last = size * size - 1;
            String set = Check.value(size, size - 1) + Check.value(size, size) + Check.value(size, last);
            StoneRoom x = Check.roomOf("(;SZ[" + size + "]AB" + set + ")");
            check.due("I: three chains of " + size, x.count(6), 3);
            check.due("I: the row's end is alone, of " + size, x.chain(size - 1, 1), 1);
            check.due("I: the column's end is alone, of " + size, x.chain(last, 1), 1);
        }
    }

    /** "A POINT is empty (0) or has a stone, BLACK (1) or WHITE (2)" */
    private void aPointIsEmptyOrHasAStone() {
        StoneRoom x = begun(3);
        x.play(4);
        x.play(5);
        check.due("I: empty", x.at(3), 0);
        check.due("I: BLACK moves first", x.at(4), 1);
        check.due("I: WHITE", x.at(5), 2);
    }

    /** "A CHAIN: stones of one colour, neighbours of one another" */
    private void chainsAreOfOneColour() {
        StoneRoom x = Check.roomOf(Check.drawn("XXO", "XOO", "..."));
        check.due("I: black's stones", x.chain(0, 1), 3);
        check.due("I: white's stones", x.chain(8 - 3, 1), 3);
        check.due("I: CHAINS", x.count(6), 2);
        StoneRoom y = Check.roomOf(Check.drawn(".XO", "XO.", "O.."));
        check.due("I: each stone a CHAIN", y.count(6), 5);
        check.due("I: none on an empty board", begun(3).count(6), 0);
    }

    private void cornersTouchNobody() {
        StoneRoom x = Check.roomOf(Check.drawn("X..", ".X.", "..X"));
        check.due("I: stones corner to corner", x.chain(4, 1), 1);
        check.due("I: three CHAINS", x.count(6), 3);
    }

    /** "its LIBERTIES: empty neighbours of its stones", each once. */
    private void aLibertyIsCountedOnce() {
        StoneRoom x = Check.roomOf(Check.drawn("XXX", "X.X", "XX."));
        check.due("I: the middle is one, beside four stones", x.chain(0, 2), 2);
        check.due("I: the middle", x.liberty(0, 0), 4);
        check.due("I: the corner", x.liberty(0, 1), 8);
    }

    /** "Its HEAD: its least POINT", by whichever stone the chain is told. */
    private void theHeadIsTheLeastPoint() {
        StoneRoom x = Check.roomOf(Check.drawn("...X", ".XXX", "XX..", "XX.."));
        int[] stones = {3, 5, 6, 7, 8, 9, 12, 13};
        for (int stone : stones) {
            check.due("I: HEAD by " + stone, x.chain(stone, 0), 3);
            check.due("I: stones by " + stone, x.chain(stone, 1), stones.length);
        }
        check.due("I: HEAD 0", Check.roomOf(Check.drawn("X..", "...", "...")).chain(0, 0), 0);
        check.due("I: HEAD of one", Check.roomOf(Check.drawn("...", "...", "..X")).chain(8, 0), 8);
    }

    /** "chains of the other colour without LIBERTIES are TAKEN": four at once, too. */
    private void allChainsWithoutLibertiesAreTaken() {
        StoneRoom x = Check.roomOf(Check.drawn("..X..", ".XOX.", "XO.OX", ".XOX.", "..X.."));
        check.due("I: black plays in their middle", x.play(12), 0);
        check.due("I: four are TAKEN", x.node(1, 8), 4);
        for (int point : new int[] {7, 11, 13, 17}) {
            check.due("I: " + point + " is empty", x.at(point), 0);
        }
        check.due("I: black's stones stay", x.count(7), 9);
        StoneRoom y = Check.roomOf(Check.drawn("OOX", "OX.", "..."));
        y.play(6);
        check.due("I: a chain of three is TAKEN", y.node(1, 8), 3);
        StoneRoom z = begun(3);
        z.play(0);
        check.due("I: a play that takes nothing", z.node(1, 8), 0);
    }

    private void aChainWithALibertyStays() {
        StoneRoom x = Check.roomOf(Check.drawn("OO.", "X..", "..."));
        x.play(4);
        check.due("I: one LIBERTY is left", x.chain(0, 2), 1);
        check.due("I: nothing is TAKEN", x.node(1, 8), 0);
        check.due("I: it stays", x.at(0), 2);
    }

    /** "then, if its own CHAIN has none": what has taken has room. */
    private void takingComesAheadOfSuicide() {
        StoneRoom x = Check.roomOf(Check.drawn(".OX", "OOX", "XX."));
        check.due("I: black's last breath takes three", x.play(0), 0);
        check.due("I: TAKEN", x.node(1, 8), 3);
        check.due("I: it stands", x.at(0), 1);
        StoneRoom y = Check.roomOf(Check.drawn(".O.", "OOX", "XX."));
        check.due("I: with one LIBERTY left to them it is SUICIDE", y.let(0), 3);
    }

    private void suicideOfOneAndOfMany() {
        StoneRoom x = Check.roomOf(Check.drawn(".O.", "O..", "..X"));
        check.due("I: SUICIDE of one", x.let(0), 3);
        check.due("I: play", x.play(0), 3);
        check.due("I: no stone is put", x.at(0), 0);
        StoneRoom y = Check.roomOf(Check.drawn("X.O", "XO.", "O.."));
        check.due("I: SUICIDE of three", y.play(1), 3);
        check.due("I: the two stay", y.at(0) + y.at(3), 2);
        StoneRoom z = Check.roomOf(Check.drawn("X.O", "X..", "O.."));
        check.due("I: with one LIBERTY it is none", z.play(1), 0);
    }

    /** All points but one: the one colour has no PLAY, the other takes everything. */
    private void aFullBoardIsTakenWhole() {
        for (int size = 3; size <= 9; size++) {
            int last = size * size - 1;
            StringBuilder all = new StringBuilder();
            for (int p = 0; p < last; p++) {
                all.append(Check.value(size, p));
            }
            StoneRoom x = Check.roomOf("(;SZ[" + size + "]AW" + all + ";B[])");
            check.due("I: one chain of all but one, of " + size, x.chain(0, 1), last);
            check.due("I: its one LIBERTY", x.liberty(0, 0), last);
            check.due("I: BLACK's TURN, of " + size, x.play(last), 0);
            check.due("I: all are TAKEN", x.node(2, 8), last);
            check.due("I: one stone is left", x.count(7), 1);
            x.to(1);
            check.due("I: WHITE's own is SUICIDE, of " + size, x.let(last), 3);
        }
    }
}
