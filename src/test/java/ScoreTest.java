/** Promises 22 to 24: stones agreed to be dead, scores, and who is ahead. */
public final class ScoreTest {
    private static final int NONE = StoneRoom.NONE;

    private final Check check = new Check();

    public static void main(String[] args) {
        ScoreTest test = new ScoreTest();
        test.marksChains();
        test.forgetsMarks();
        test.keepsMarks();
        test.scores();
        test.countsTaken();
        test.tellsWhoIsAhead();
        test.check.close("ScoreTest");
    }

    private static StoneRoom twoHalves() {
        // Black has the left, white the right, with a black stone of two in white's part and a white one in black's.
        return Check.roomOf("(;SZ[5]KM[7]AB[ba][bb][bc][bd][be][ed][ee]AW[ca][cb][cc][cd][ce][aa];B[])");
    }

    private void marksChains() {
        StoneRoom x = twoHalves();
        check.due("22: dead(19, true)", x.dead(19, true), 2);
        check.due("17: DEAD", x.chain(24, 4), 1);
        check.due("17: another chain", x.chain(1, 4), 0);
        check.due("22: again", x.dead(24, true), 2);
        check.due("22: no more", x.dead(19, false), 2);
        check.due("17: no more DEAD", x.chain(24, 4), 0);
        check.due("22: not DEAD before", x.dead(1, false), 5);
        check.due("22: an empty point", x.dead(4, true), NONE);
        check.due("22: no point", x.dead(25, true), NONE);
        check.due("22: no point", x.dead(-1, false), NONE);
    }

    private void forgetsMarks() {
        StoneRoom x = twoHalves();
        x.dead(0, true);
        x.to(1);
        check.due("22: to()", x.chain(0, 4), 0);
        x.dead(0, true);
        x.back(1);
        check.due("22: back()", x.chain(0, 4), 0);
        x.dead(0, true);
        x.on(0);
        check.due("22: on()", x.chain(0, 4), 0);
        x.dead(0, true);
        x.play(4);
        check.due("22: play()", x.chain(0, 4), 0);
        x.dead(0, true);
        x.back(1);
        x.play(NONE);
        check.due("22: a pass", x.score(2, 3), 0);
        x.dead(0, true);
        Check.read(x, "(;SZ[5]AW[aa])");
        check.due("22: read()", x.chain(0, 4), 0);
        x.dead(0, true);
        x.begin(5, 0);
        x.play(0);
        check.due("22: begin()", x.chain(0, 4), 0);
    }

    private void keepsMarks() {
        StoneRoom x = twoHalves();
        x.dead(0, true);
        x.let(4);
        x.play(0);
        x.on(5);
        x.to(99);
        x.back(-1);
        x.back(1);
        x.begin(2, 0);
        Check.read(x, "(;x)");
        x.ko(0);
        x.ladder(0);
        x.write();
        x.clocks(1, 1, 1);
        check.due("22: what has done nothing leaves them", x.chain(0, 4), 1);
    }

    private void scores() {
        StoneRoom x = twoHalves();
        // Nothing dead: the left column's points are come to from both colours, the right's too.
        check.due("23: black's area", x.score(1, 0), 7);
        check.due("23: white's area", x.score(2, 0), 6);
        check.due("23: black's territory", x.score(1, 1), 0);
        x.dead(0, true);
        check.due("23: black's area", x.score(1, 0), 12);
        check.due("23: white's area", x.score(2, 0), 5);
        check.due("23: black's territory", x.score(1, 1), 6);
        check.due("23: white's dead", x.score(2, 3), 1);
        check.due("23: black's dead", x.score(1, 3), 0);
        x.dead(19, true);
        check.due("23: black's area", x.score(1, 0), 10);
        check.due("23: white's area", x.score(2, 0), 15);
        check.due("23: white's territory", x.score(2, 1), 12);
        check.due("23: black's dead", x.score(1, 3), 2);
        check.due("23: another what", x.score(1, 4), NONE);
        check.due("23: another what", x.score(1, -1), NONE);
        check.due("23: another colour", x.score(0, 0), NONE);
        check.due("23: another colour", x.score(3, 0), NONE);
        StoneRoom y = new StoneRoom();
        check.due("23: an empty board is nobody's", y.score(1, 0) + y.score(2, 0), 0);
        y.play(0);
        check.due("23: one stone has all", y.score(1, 0), 81);
        check.due("23: and all but its own as territory", y.score(1, 1), 80);
        y.dead(0, true);
        check.due("23: with it dead nobody has anything", y.score(1, 0) + y.score(1, 1), 0);
        check.due("23: but the stone", y.score(2, 1), 1);
    }

    private void countsTaken() {
        StoneRoom x = Check.roomOf("(;SZ[3]AB[ba]AW[aa];B[ab](;W[cc])(;W[aa]))".replace("(;W[aa])", "(;W[bb])"));
        check.due("15: took", x.node(1, 8), 1);
        check.due("23: at the root", x.score(1, 2), 0);
        x.to(2);
        check.due("23: taken on the way", x.score(1, 2), 1);
        check.due("23: none by white", x.score(2, 2), 0);
        check.due("23: territory has them", x.score(1, 1), 2);
        StoneRoom y = Check.roomOf("(;SZ[3]AB[ba]AW[aa];AE[aa];B[ab])");
        y.to(2);
        check.due("23: what is set off is not taken", y.score(1, 2), 0);
    }

    private void tellsWhoIsAhead() {
        StoneRoom x = twoHalves();
        check.due("24: by area", x.ahead(0), 2 * 7 - 2 * 6 - 7);
        check.due("24: by territory", x.ahead(1), -7);
        x.dead(0, true);
        check.due("24: by area", x.ahead(0), 2 * 12 - 2 * 5 - 7);
        check.due("24: by territory", x.ahead(1), 2 * 6 - 7);
        check.due("24: another what", x.ahead(2), 0);
        check.due("24: another what", x.ahead(-1), 0);
        x.begin(5, -200);
        check.due("24: komi below 0", x.ahead(0), 200);
    }
}
