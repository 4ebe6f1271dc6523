/** Promises 4 to 9: the tape, texts that are read and refused at their first fault, texts that are written. */
public final class TextTest {
    private static final int NONE = StoneRoom.NONE;

    private final Check check = new Check();

    public static void main(String[] args) {
        TextTest test = new TextTest();
        test.feeds();
        test.ends();
        test.readsAndEmptiesTape();
        test.refusesBytes();
        test.refusesNames();
        test.refusesValues();
        test.refusesPlaysAndSets();
        test.refusesTooManyNodes();
        test.ordersFaults();
        test.readsByKoAsSet();
        test.acceptsWhatCountsNothing();
        test.numbersNodesByText();
        test.tellsPlaces();
        test.writes();
        test.writesMostBytes();
        test.check.close("TextTest");
    }

    private void feeds() {
        StoneRoom x = new StoneRoom();
        int hello = Check.word("abcd", 0);
        for (int i = 1; i <= 75; i++) {
            check.due("4: feed " + i, x.feed(hello, hello, hello, hello, hello), 20 * i);
        }
        check.due("4: feed beyond 1500", x.feed(1, 2, 3, 4, 5), NONE);
        check.due("28: count(8)", x.count(8), 1500);
        x.end(1481);
        check.due("4: feed that would be 1501", x.feed(1, 2, 3, 4, 5), NONE);
        check.due("28: count(8)", x.count(8), 1481);
        x.end(1480);
        check.due("4: feed that is 1500", x.feed(1, 2, 3, 4, 5), 1500);
        StoneRoom y = new StoneRoom();
        // (;C[ and bytes above 127 and a ] in the order of the numbers, the highest byte first.
        y.feed(0x283B435B, 0xFF80FE81, 0x5D422041, 0, 0);
        y.end(10);
        check.due("6: bytes above 127 stand in values", y.read(), 1);
        check.due("7: the end, behind the name B", y.place(), 10);
    }

    private void ends() {
        StoneRoom x = new StoneRoom();
        check.due("5: end(0) of an empty tape", x.end(0), 0);
        check.due("5: end(1) of an empty tape", x.end(1), NONE);
        x.feed(1, 2, 3, 4, 5);
        check.due("5: end(21)", x.end(21), NONE);
        check.due("5: end(-1)", x.end(-1), NONE);
        check.due("5: end(min)", x.end(Integer.MIN_VALUE), NONE);
        check.due("28: count(8)", x.count(8), 20);
        check.due("5: end(20)", x.end(20), 20);
        check.due("5: end(7)", x.end(7), 7);
        check.due("28: count(8)", x.count(8), 7);
        check.due("5: end(8)", x.end(8), NONE);
    }

    private void readsAndEmptiesTape() {
        StoneRoom x = new StoneRoom();
        x.begin(4, 5);
        x.play(3);
        check.due("6: an empty tape", x.read(), 1);
        check.due("7: at its end", x.place(), 0);
        check.due("6: a fault", Check.read(x, "(;SZ[5]B[aa];W[aa])"), 4);
        check.due("28: the tape is empty", x.count(8), 0);
        check.due("28: the game stays, size", x.count(2), 4);
        check.due("28: the game stays, komi", x.count(3), 5);
        check.due("28: the game stays, nodes", x.count(0), 2);
        check.due("16: the game stays, board", x.at(3), 1);
        check.due("10: its rules too", x.let(16), 1);
        check.due("6: a game", Check.read(x, "(;SZ[5]KM[9]B[aa];W[bb])"), 0);
        check.due("28: the tape is empty", x.count(8), 0);
        check.due("28: size", x.count(2), 5);
        check.due("28: komi", x.count(3), 9);
        check.due("28: place", x.count(1), 0);
        check.due("28: nodes", x.count(0), 2);
        check.due("16: at(0)", x.at(0), 1);
        check.due("16: at(6)", x.at(6), 0);
        check.due("6: a game that tells nothing", Check.read(x, "(;)"), 0);
        check.due("28: size", x.count(2), 9);
        check.due("28: komi", x.count(3), 0);
        check.due("28: stones", x.count(7), 0);
    }

    /** Asks for the fault and its place. */
    private void faulty(String text, int fault, int place) {
        StoneRoom x = new StoneRoom();
        check.due("6: read of " + text, Check.read(x, text), fault);
        check.due("7: place in " + text, x.place(), place);
    }

    private void fine(String text) {
        faulty(text, 0, NONE);
    }

    private void refusesBytes() {
        faulty("", 1, 0);
        faulty("  \n", 1, 3);
        faulty("x", 1, 0);
        faulty(";", 1, 0);
        faulty("(", 1, 1);
        faulty("( ", 1, 2);
        faulty("()", 1, 1);
        faulty("((;))", 1, 1);
        faulty("(;", 1, 2);
        faulty("(;x)", 1, 2);
        faulty("(;[aa])", 1, 2);
        faulty("(;B)", 1, 3);
        faulty("(;B", 1, 3);
        faulty("(;B [aa", 1, 7);
        faulty("(;B[aa)             ", 1, 20);
        faulty("(;C[a\\]", 1, 7);
        faulty("(;C[a\\", 1, 6);
        faulty("(;B[aa]b)", 1, 7);
        faulty("(;A B[aa])", 1, 4);
        faulty("(;Ab[aa])", 1, 3);
        faulty("(;)x", 1, 3);
        faulty("(;)(;)", 1, 3);
        faulty("(;) ;", 1, 4);
        faulty("(;)\t", 1, 3);
        faulty("\u0000(;)", 1, 0);
        faulty("(;(;);)", 1, 5);
        faulty("(;(;)B[aa])", 1, 5);
        faulty("(;())", 1, 3);
        faulty("(;(;)", 1, 5);
    }

    private void refusesNames() {
        faulty("(;SZ[5]SZ[5])", 2, 7);
        faulty("(;KM[5]KM[5])", 2, 7);
        faulty("(;B[aa]B[bb])", 2, 7);
        faulty("(;AB[aa]AB[bb])", 2, 8);
        faulty("(;AE[aa]XX[]AE[bb])", 2, 12);
        faulty("(;B[aa]W[bb])", 2, 7);
        faulty("(;W[aa]AB[bb])", 2, 7);
        faulty("(;B[aa]AE[bb])", 2, 7);
        faulty("(;AB[aa] B[bb])", 2, 9);
        faulty("(;AW[aa]W[bb])", 2, 8);
        faulty("(;B[aa];SZ[5])", 2, 8);
        faulty("(;B[aa];KM[5])", 2, 8);
        faulty("(;(;KM[5]))", 2, 4);
        faulty("(;AB[aa]SZ[5])", 2, 8);
        faulty("(;B[aa]SZ[5])", 2, 7);
        faulty("(;B[]W", 2, 5);
        faulty("(;SZ[5]SZ)", 2, 7);
        fine("(;AB[aa]AW[bb]AE[cc])");
        fine("(;AB[aa]KM[5])");
        fine("(;KM[5]SZ[5])");
        fine("(;C[a]C[b]BB[x]WW[y]SZZ[0]AX[];C[a]S[]Z[])");
    }

    private void refusesValues() {
        for (String size : new String[] {"2", "10", "19", "", "-5", "0009", "5 ", "+5", "0", "x", "999", "5:5", "\\5"}) {
            faulty("(;SZ[" + size + "])", 3, 4);
        }
        for (String size : new String[] {"3", "9", "05", "009"}) {
            fine("(;SZ[" + size + "])");
        }
        for (String komi : new String[] {"201", "-201", "", "-", "--5", "5-", "6.5", "0200", "-0200", "a", "- 5"}) {
            faulty("(;KM[" + komi + "])", 3, 4);
        }
        for (String komi : new String[] {"200", "-200", "0", "-0", "007", "-007"}) {
            fine("(;KM[" + komi + "])");
        }
        faulty("(;SZ[5][5])", 3, 7);
        faulty("(;KM[5] [5])", 3, 8);
        faulty("(;B[aa][bb])", 3, 7);
        faulty("(;W[][])", 3, 5);
        for (String point : new String[] {"ja", "aj", "a", "aaa", "Aa", "a a", " ", "a\\a", "\\aa", "aa:bb", "a1", "tt"}) {
            faulty("(;B[" + point + "])", 3, 3);
            faulty("(;AW[" + point + "])", 3, 4);
        }
        faulty("(;AB[])", 3, 4);
        faulty("(;SZ[5]B[fa])", 3, 8);
        faulty("(;SZ[5]AE[ee][ef])", 3, 13);
        faulty("(;SZ[5];W[af])", 3, 9);
        faulty("(;AB[aa][aa])", 3, 8);
        faulty("(;AB[aa]AW[bb][aa])", 3, 14);
        faulty("(;AE[aa]AB[aa])", 3, 10);
        fine("(;SZ[5]B[ee])");
        fine("(;B[ii])");
        fine("(;AB[aa];AB[aa];AE[aa];AE[aa])");
    }

    private void refusesPlaysAndSets() {
        faulty("(;B[aa];W[aa])", 4, 7);
        faulty("(;B[aa] ; W[aa] )", 4, 8);
        faulty("(;SZ[3]AB[ba][ab];W[aa])", 4, 17);
        faulty("(;SZ[5]AB[ba][ab][bc]AW[ca][db][cc][bb];B[cb];W[bb])", 4, 45);
        faulty("(;SZ[3]AB[ba][ab]AW[aa])", 5, 1);
        faulty("(;SZ[3]AB[ba][ab];C[]AW[aa])", 5, 17);
        faulty("(;SZ[3]AB[ba][ab][bb]AW[aa];)", 5, 1);
        faulty("(;SZ[3]AB[aa][ba][ca][ab][bb][cb][ac][bc];AB[cc])", 5, 41);
        // All of a set is done at once, and takes nothing.
        fine("(;SZ[3]AW[aa]AB[ba][bb];AB[ab]AE[aa])");
        // Whosever turn it is.
        fine("(;SZ[5];W[aa];W[bb];B[cc];B[dd])");
        // Over is no fault, nor is a pass behind it.
        fine("(;B[];W[];B[aa])");
        fine("(;B[];W[];B[];W[])");
        // A play in the root.
        StoneRoom x = Check.roomOf("(;SZ[5]B[cc];W[aa])");
        check.due("6: the root plays", x.at(12), 1);
    }

    private void refusesTooManyNodes() {
        StringBuilder text = new StringBuilder("(");
        for (int i = 0; i < 250; i++) {
            text.append(";");
        }
        fine(text + ")");
        faulty(text + ";)", 6, 251);
        faulty(text + ";B[zz]", 6, 251);
        faulty(text + "x)", 1, 251);
        faulty(text + "(;))", 6, 252);
        StringBuilder deep = new StringBuilder();
        for (int i = 0; i < 250; i++) {
            deep.append("(;");
        }
        faulty(deep.toString(), 1, 500);
        faulty(deep + "(;", 6, 501);
        faulty(deep + "((", 1, 501);
        StringBuilder closed = new StringBuilder(deep);
        for (int i = 0; i < 250; i++) {
            closed.append(")");
        }
        fine(closed.toString());
        faulty(closed + ")", 1, 750);
        faulty(closed.substring(0, 749), 1, 749);
        StoneRoom x = Check.roomOf(closed.toString());
        check.due("15: depth", x.node(249, 6), 249);
        check.due("8: a long line has no brackets between", x.write(), 2 + 250 + 5);
        StoneRoom y = new StoneRoom();
        Check.read(y, text + ")");
        check.due("28: nodes", y.count(0), 250);
        check.due("10: full", y.let(0), 6);
    }

    private void ordersFaults() {
        // 4 and 5 are asked as soon as no great letter follows, whatever it is.
        faulty("(;B[aa];W[aa]x", 4, 7);
        faulty("(;B[aa];W[aa]", 4, 7);
        faulty("(;B[aa];W[aa]\u0001", 4, 7);
        faulty("(;SZ[3]AB[ba][ab]AW[aa]x", 5, 1);
        // But what is told in the node comes ahead of them.
        faulty("(;B[aa];W[aa]B[bb])", 2, 13);
        faulty("(;B[aa];W[aa]C)", 1, 14);
        faulty("(;B[aa];W[aa]C[", 1, 15);
        faulty("(;B[aa];W[aa][bb])", 3, 13);
        faulty("(;SZ[3]AB[ba][ab]AW[aa][zz])", 3, 23);
        // A name is asked ahead of its values, a value ahead of the next.
        faulty("(;B[aa]W[zz])", 2, 7);
        faulty("(;B[zz]W[aa])", 3, 3);
        faulty("(;AB[zz][", 3, 4);
    }

    private void readsByKoAsSet() {
        // Sending two, returning one, which KO 1 bars alone.
        String text = "(;SZ[5]AB[ab][bb];AW[ba][da][cb];W[aa];B[ca];W[ba])";
        for (int rule = 0; rule <= 2; rule++) {
            StoneRoom x = new StoneRoom();
            x.ko(rule);
            check.due("6: KO " + rule, Check.read(x, text), rule == 1 ? 4 : 0);
            check.due("7: KO " + rule, x.place(), rule == 1 ? 44 : NONE);
        }
        // The turn that counts is the one behind the play: here it is black's twice.
        StoneRoom y = new StoneRoom();
        y.ko(2);
        check.due("6: KO 2, the same turn", Check.read(y, "(;SZ[5]AB[aa]AW[bb];AE[bb];W[bb])"), 4);
        check.due("6: KO 2, another turn", Check.read(y, "(;SZ[5]AB[aa]AW[bb];AE[aa];B[aa])"), 0);
    }

    private void acceptsWhatCountsNothing() {
        fine(" ( ; XX[a\\]b][(;] B [ee]\n;W[])          ");
        fine("\r\n(\r;\nC\n[\n]\r[ ] ( ; ) \n)\r");
        fine("(;C[\\\\])");
        fine("(;C[[[[])");
        StoneRoom x = Check.roomOf(" ( ; XX[a\\]b][(;] B [ee]\n;W[])          ");
        check.due("28: nodes", x.count(0), 2);
        check.due("16: at(40)", x.at(40), 1);
        check.due("15: a pass", x.node(1, 1), 2);
    }

    private void numbersNodesByText() {
        StoneRoom x = Check.roomOf("(;SZ[9]KM[013];B[ee](;W[cc];B[])(;W[gg]))");
        int[] parents = {NONE, 0, 1, 2, 1};
        int[] points = {NONE, 40, 20, NONE, 60};
        for (int node = 0; node < parents.length; node++) {
            check.due("6: parent of " + node, x.node(node, 0), parents[node]);
            check.due("6: point of " + node, x.node(node, 4), points[node]);
        }
        check.due("28: komi", x.count(3), 13);
        // First the column, then the row.
        check.due("6: ba is 1", Check.roomOf("(;SZ[5]AB[ba])").at(1), 1);
        check.due("6: ab is 5", Check.roomOf("(;SZ[5]AW[ab])").at(5), 2);
        StoneRoom y = Check.roomOf("(;SZ[5]AB[aa][bb];AE[aa]AW[cc];AB[cc])");
        y.to(1);
        check.due("6: AE", y.at(0), 0);
        check.due("6: AW", y.at(12), 2);
        y.to(2);
        check.due("6: AB over white", y.at(12), 1);
        check.due("6: nothing is taken by it", y.node(2, 8), 0);
    }

    private void tellsPlaces() {
        StoneRoom x = new StoneRoom();
        check.due("7: ahead of any", x.place(), NONE);
        Check.read(x, "(;x)");
        check.due("7: of a fault", x.place(), 2);
        x.begin(5, 0);
        x.play(0);
        check.due("7: it stays", x.place(), 2);
        Check.read(x, "(;)");
        check.due("7: none of the latest", x.place(), NONE);
    }

    private void written(String text, String want) {
        check.due("8: written", Check.written(Check.roomOf(text)), want);
    }

    private void writes() {
        StoneRoom x = new StoneRoom();
        check.due("8: a new game", Check.written(x), "(;SZ[9])");
        check.due("9: octet(-1)", x.octet(-1), NONE);
        check.due("9: octet(0)", x.octet(0), '(');
        check.due("9: octet(7)", x.octet(7), ')');
        check.due("9: octet(8)", x.octet(8), NONE);
        check.due("9: octet(max)", x.octet(Integer.MAX_VALUE), NONE);
        x.begin(5, -13);
        x.play(7);
        check.due("9: OUT stays until it is written anew", x.octet(4), '[');
        x.play(NONE);
        check.due("8: plays", Check.written(x), "(;SZ[5]KM[-13];B[cb];W[])");
        x.to(1);
        x.play(0);
        x.play(24);
        x.to(0);
        x.play(1);
        check.due("8: branches", Check.written(x), "(;SZ[5]KM[-13](;B[cb](;W[])(;W[aa];B[ee]))(;B[ba]))");
        check.due("28: writing moves nothing", x.count(1), 5);
        written("(;KM[200])", "(;SZ[9]KM[200])");
        written("(;KM[-0]SZ[05])", "(;SZ[5])");
        written("(;KM[-107])", "(;SZ[9]KM[-107])");
        written("(;KM[40])", "(;SZ[9]KM[40])");
        written("(;AE[ab][aa]AW[cc]AB[dc][bb]C[x])", "(;SZ[9]AB[bb][dc]AW[cc]AE[aa][ab])");
        written("(;AE[aa]AB[bb];AW[cc]AE[bb])", "(;SZ[9]AB[bb]AE[aa];AW[cc]AE[bb])");
        written("(;KM[3]W[aa];C[x];B[])", "(;SZ[9]KM[3]W[aa];;B[])");
        written(" ( ; ( ; ( ; ) ) )", "(;SZ[9];;)");
        written("(;(;B[aa])(;B[aa](;)(;)(;W[bb])))", "(;SZ[9](;B[aa])(;B[aa](;)(;)(;W[bb])))");
        written("(;SZ[3]AB[cc][ac][ca])", "(;SZ[3]AB[ca][ac][cc])");
    }

    private void writesMostBytes() {
        // A tape full of points, then plays up to the last node, each a tree of its own.
        StringBuilder text = new StringBuilder("(;KM[-200]");
        int set = 0;
        while (text.length() < 1480 - 9) {
            text.append(set % 40 == 0 ? set == 0 ? "AE" : ";AE" : "");
            text.append("[").append((char) ('a' + set % 8)).append((char) ('a' + set % 40 / 8)).append("]");
            set++;
        }
        StoneRoom x = Check.roomOf(text + ")");
        int own = x.write();
        for (int node = 0; x.count(0) < 250; node++) {
            x.to(node);
            for (int p = 0; p < 81 && x.count(0) < 250; p++) {
                x.to(node);
                x.play(p);
            }
        }
        String all = Check.written(x);
        check.due("8: it is longer", all.length() > own + 6 * 200, true);
        check.due("8: it is whole", all.endsWith(")"), true);
        int depth = 0;
        int nodes = 0;
        for (int i = 0; i < all.length(); i++) {
            depth += all.charAt(i) == '(' ? 1 : all.charAt(i) == ')' ? -1 : 0;
            nodes += all.charAt(i) == ';' ? 1 : 0;
        }
        check.due("8: its brackets close", depth, 0);
        check.due("8: its nodes", nodes, 250);
    }
}
