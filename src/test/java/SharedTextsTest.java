/** The texts that ../shared/tests feeds, read as they lie there: with blanks up to a multiple of twenty bytes. */
public final class SharedTextsTest {
    private final Check check = new Check();

    public static void main(String[] args) {
        SharedTextsTest test = new SharedTextsTest();
        test.faults();
        test.fine();
        test.blanksAndOthers();
        test.branches();
        test.passesOfATree();
        test.setsBehindSets();
        test.koOfTheRoot();
        test.eyes();
        test.allOnOneTape();
        test.check.close("SharedTextsTest");
    }

    private static String filled(String text) {
        return text + " ".repeat((20 - text.length() % 20) % 20);
    }

    private static StoneRoom roomOf(String text) {
        return Check.roomOf(filled(text));
    }

    private void faulty(String text, int fault, int place) {
        StoneRoom x = roomOf("(;SZ[4]KM[7];B[bb])");
        check.due("read() of " + text, Check.read(x, filled(text)), fault);
        check.due("place() behind " + text, x.place(), place);
        check.due("bytes of the tape behind " + text, x.count(8), 0);
        check.due("the game stays behind " + text, Check.written(x), "(;SZ[4]KM[7];B[bb])");
    }

    private void faults() {
        faulty("(", 1, 20);
        faulty("(;", 1, 20);
        faulty("(;SZ[2])", 3, 4);
        faulty("(;SZ[5]SZ[5])", 2, 7);
        faulty("(;B[aa];SZ[5])", 2, 8);
        faulty("(;B[aa]W[bb])", 2, 7);
        faulty("(;AB[aa]SZ[5])", 2, 8);
        faulty("(;AB[aa][aa])", 3, 8);
        faulty("(;AB[])", 3, 4);
        faulty("(;B[aa][bb])", 3, 7);
        faulty("(;B[ja])", 3, 3);
        faulty("(;B[aa];W[aa])", 4, 7);
        faulty("(;SZ[3]AB[ba][ab]AW[aa])", 5, 1);
        faulty("(;KM[201])", 3, 4);
        faulty("(;KM[])", 3, 4);
        faulty("(;SZ[0009])", 3, 4);
        faulty("(;x)", 1, 2);
        faulty("(;B[aa)", 1, 20);
        faulty("(;)x", 1, 3);
        faulty("(;B)", 1, 3);
        faulty("(;)(;)", 1, 3);
        faulty("((;))", 1, 1);
        faulty("(;B[a\\a])", 3, 3);
    }

    private void fine() {
        check.due("nothing told", Check.written(roomOf("(;)")), "(;SZ[9])");
        StoneRoom x = roomOf("(;KM[-13])");
        check.due("komi below 0", x.count(3), -13);
        check.due("written with it", Check.written(x), "(;SZ[9]KM[-13])");
        check.due("black is ahead by it", x.ahead(0), 13);
    }

    private void blanksAndOthers() {
        StoneRoom x = roomOf(" ( ; XX[a\\]b][(;] B [ee]\n;W[])");
        check.due("nodes", x.count(0), 2);
        check.due("the root is a play", x.node(0, 1), 1);
        check.due("on the middle", x.node(0, 4), 40);
        check.due("white's turn behind it", x.count(4), 2);
        check.due("white's pass", x.node(1, 1), 2);
        check.due("the stone stands at the root", x.at(40), 1);
        check.due("written", Check.written(x), "(;SZ[9]B[ee];W[])");
    }

    private void branches() {
        StoneRoom x = roomOf("(;SZ[9]KM[013];B[ee](;W[cc];B[])(;W[gg]))");
        check.due("nodes", x.count(0), 5);
        check.due("komi", x.count(3), 13);
        check.due("children of B[ee]", x.node(1, 5), 2);
        check.due("W[gg] is the last node", x.node(4, 4), 60);
        check.due("behind B[ee]", x.node(4, 0), 1);
        check.due("two nodes ahead of it", x.node(4, 6), 2);
        check.due("written", Check.written(x), "(;SZ[9]KM[13];B[ee](;W[cc];B[])(;W[gg]))");
    }

    private void passesOfATree() {
        StoneRoom x = roomOf("(;B[];W[];B[aa])");
        int[] over = {0, 1, 0};
        for (int node = 0; node < 3; node++) {
            x.to(node);
            check.due("over at node " + node, x.count(5), over[node]);
        }
        check.due("the text's play stands", x.at(0), 1);
        x.to(1);
        check.due("no play where it is over", x.let(0), 5);
        check.due("nor a pass", x.let(StoneRoom.NONE), 5);
        check.due("but on() goes there", x.on(0), true);
        check.due("written", Check.written(x), "(;SZ[9]B[];W[];B[aa])");
    }

    private void setsBehindSets() {
        StoneRoom x = roomOf("(;AE[aa]AB[bb];AW[cc]AE[bb])");
        check.due("black stones alone: white's turn", x.count(4), 2);
        check.due("bb", x.at(10), 1);
        x.on(0);
        check.due("the parent's turn", x.count(4), 2);
        check.due("bb is empty", x.at(10), 0);
        check.due("cc", x.at(20), 2);
        check.due("nothing was taken", x.node(1, 8), 0);
        check.due("written", Check.written(x), "(;SZ[9]AB[bb]AE[aa];AW[cc]AE[bb])");
    }

    private void koOfTheRoot() {
        for (int rule = 0; rule <= 2; rule++) {
            StoneRoom x = roomOf("(;SZ[5]AB[ba][ab][bc]AW[ca][db][cc][bb])");
            String by = "by ko " + rule + ": ";
            x.ko(rule);
            check.due(by + "black begins", x.count(4), 1);
            check.due(by + "black takes", x.play(7), 0);
            check.due(by + "one stone", x.node(1, 8), 1);
            check.due(by + "white may not take back", x.let(6), 4);
            check.due(by + "white plays away", x.play(24), 0);
            check.due(by + "so does black", x.play(20), 0);
            check.due(by + "white takes back", x.play(6), 0);
            check.due(by + "black may not", x.play(7), 4);
        }
    }

    private void eyes() {
        StoneRoom two = roomOf("(;SZ[5]AB[ba][da][ab][bb][cb][db])");
        check.due("one chain", two.count(6), 1);
        check.due("two eyes live", two.chain(1, 3), 1);
        check.due("aa is vital", two.region(1, 0, 3), 1);
        check.due("ca is vital", two.region(1, 2, 3), 1);
        check.due("the rest is not", two.region(1, 4, 3), 0);
        check.due("it has the corner ea", two.region(1, 24, 0), 4);
        check.due("the board is black's", two.score(1, 0), 25);
        StoneRoom one = roomOf("(;SZ[5]AB[ba][ab][bb])");
        check.due("one eye does not", one.chain(1, 3), 0);
        check.due("aa is vital", one.region(1, 0, 3), 1);
        check.due("the rest is not", one.region(1, 24, 3), 0);
    }

    /** As the third run feeds them, without a read() between: the first tree never closes in what follows. */
    private void allOnOneTape() {
        StoneRoom x = new StoneRoom();
        check.due("two trees that do not close", Check.read(x, filled("(") + filled("(;") + filled("(;SZ[2])")), 1);
        check.due("at the second (", x.place(), 20);
        StoneRoom y = new StoneRoom();
        String twice = filled("(;SZ[5]AB[ba][da][ab][bb][cb][db])") + filled("(;SZ[5]AB[ba][ab][bb])");
        check.due("two texts", Check.read(y, twice), 1);
        check.due("at the second", y.place(), 40);
    }
}
