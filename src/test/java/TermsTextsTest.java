/** The document's Terms III, sentence by sentence: the grammar of texts, their faults and places, what is written. */
public final class TermsTextsTest {
    private static final int NONE = StoneRoom.NONE;
    private static final String[] NAMES = {"SZ", "KM", "B", "W", "AB", "AW", "AE", "C"};
    private static final String[] VALUES = {"[9]", "[7]", "[aa]", "[bb]", "[cc]", "[dd]", "[ee]", "[x]"};

    private final Check check = new Check();

    public static void main(String[] args) {
        TermsTextsTest test = new TermsTextsTest();
        test.theTapeIsReadToIts1500thByte();
        test.treesHaveNodesThenTrees();
        test.everyByteWhereNodesAndTreesStand();
        test.everyByteAroundNamesAndValues();
        test.everyByteOfPointsAndNumbers();
        test.aStrokeTakesTheNextByteAlong();
        test.blanksCountNothingBetween();
        test.blanksCountWithinNamesAndValues();
        test.behindTheTreeIsNothing();
        test.sizesAreNumbers();
        test.komisAreNumbers();
        test.numbersHaveOneToThreeDigits();
        test.movesHaveOneValue();
        test.settersHavePoints();
        test.othersCountNothing();
        test.pointsAreColumnThenRow();
        test.theFaultIsAtTheFirstByteOrTheEnd();
        test.namesBesideOneAnother();
        test.namesThatAreNotQuiteThese();
        test.sizeAndKomiAreTheRoots();
        test.valuesOneTooMany();
        test.pointsOffTheBoard();
        test.pointsSetTwice();
        test.playsThatAreNotLet();
        test.overIsNoFault();
        test.setsLeaveLiberties();
        test.the251stNodeIsAskedFirst();
        test.playsAndSetsAreAskedBehindTheirProperties();
        test.theFirstFaultAlongTheText();
        test.aTextIsTheGame();
        test.writtenHeads();
        test.writtenSets();
        test.writtenTrees();
        test.check.close("TermsTextsTest");
    }

    private void faulty(String text, int fault, int place) {
        StoneRoom x = new StoneRoom();
        check.due("III: read of " + text, Check.read(x, text), fault);
        check.due("III: place in " + text, x.place(), place);
    }

    private void fine(String text) {
        faulty(text, 0, NONE);
    }

    private static boolean isBlank(int b) {
        return b == 32 || b == 10 || b == 13;
    }

    private static boolean isGreat(int b) {
        return b >= 'A' && b <= 'Z';
    }

    /** "The TAPE has at most 1500 bytes." All of them are read. */
    private void theTapeIsReadToIts1500thByte() {
        String filled = "(;C[" + "x".repeat(1494) + "])";
        check.due("the test's own text", filled.length(), 1500);
        fine(filled);
        faulty(filled.substring(0, 1499), 1, 1499);
        faulty(filled.substring(0, 1499) + "x", 1, 1499);
        faulty("(;C[" + "x".repeat(1496), 1, 1500);
        faulty(" ".repeat(1500), 1, 1500);
        fine(" ".repeat(1497) + "(;)");
        fine("(;" + "A".repeat(1495) + "[])");
        fine("(;C" + "[]".repeat(748) + ")");
        faulty("(;" + "C[]".repeat(499) + "x", 1, 1499);
        fine("(;AE[aa]" + "C[]".repeat(497) + ")");
    }

    /** "A TREE: ( then NODES, one or more, then TREES, any number, then )." */
    private void treesHaveNodesThenTrees() {
        faulty("()", 1, 1);
        fine("(;)");
        fine("(;;)");
        fine("(;(;))");
        fine("(;(;)(;)(;))");
        fine("(;(;(;(;))))");
        fine("(;;(;;(;;)(;;))(;;))");
        faulty("(;())", 1, 3);
        faulty("((;))", 1, 1);
        faulty("(;((;)))", 1, 3);
        faulty("(;(;);)", 1, 5);
        faulty("(;(;)C[])", 1, 5);
        faulty("(;(;)", 1, 5);
        faulty("(;(;)))", 1, 6);
    }

    /** "a byte that can't stand there": each of 256, in each place. */
    private void everyByteWhereNodesAndTreesStand() {
        for (int b = 0; b < 256; b++) {
            String s = "" + (char) b;
            boolean blank = isBlank(b);
            faulty(s, 1, blank || b == '(' ? 1 : 0);
            faulty("(" + s, 1, blank || b == ';' ? 2 : 1);
            boolean goesOn = blank || isGreat(b) || b == ';' || b == '(';
            faulty("(;" + s, b == ')' ? 0 : 1, b == ')' ? NONE : goesOn ? 3 : 2);
            boolean tree = blank || b == '(';
            faulty("(;(;)" + s, b == ')' ? 0 : 1, b == ')' ? NONE : tree ? 6 : 5);
            faulty("(;)" + s, blank ? 0 : 1, blank ? NONE : 3);
        }
    }

    /** "a NAME of great letters, then VALUES, one or more: [ then bytes up to ]" */
    private void everyByteAroundNamesAndValues() {
        for (int b = 0; b < 256; b++) {
            String s = "" + (char) b;
            boolean blank = isBlank(b);
            faulty("(;C" + s, 1, blank || isGreat(b) || b == '[' ? 4 : 3);
            faulty("(;C " + s, 1, blank || b == '[' ? 5 : 4);
            boolean goesOn = blank || isGreat(b) || b == '[' || b == ';' || b == '(';
            faulty("(;C[]" + s, b == ')' ? 0 : 1, b == ')' ? NONE : goesOn ? 6 : 5);
            if (b != ']' && b != '\\') {
                fine("(;C[" + s + "])");
            }
            fine("(;C[\\" + s + "])");
        }
        faulty("(;C[]])", 1, 5);
        faulty("(;C[\\])", 1, 7);
        faulty("(;C)", 1, 3);
        faulty("(;[])", 1, 2);
        fine("(;C[][][])");
    }

    /** "two small letters", "a being 0"; digits. */
    private void everyByteOfPointsAndNumbers() {
        for (int b = 0; b < 256; b++) {
            if (b == ']' || b == '\\') {
                continue;
            }
            String s = "" + (char) b;
            boolean point = b >= 'a' && b <= 'i';
            faulty("(;B[" + s + "b])", point ? 0 : 3, point ? NONE : 3);
            faulty("(;AW[b" + s + "])", point ? 0 : 3, point ? NONE : 4);
            boolean digit = b >= '0' && b <= '9';
            boolean size = b >= '3' && b <= '9';
            faulty("(;SZ[" + s + "])", size ? 0 : 3, size ? NONE : 4);
            faulty("(;KM[" + s + "])", digit ? 0 : 3, digit ? NONE : 4);
            faulty("(;KM[" + s + "1])", digit || b == '-' ? 0 : 3, digit || b == '-' ? NONE : 4);
            faulty("(;KM[1" + s + "])", digit ? 0 : 3, digit ? NONE : 4);
            faulty("(;KM[-" + s + "])", digit ? 0 : 3, digit ? NONE : 4);
        }
        faulty("(;B[]b])", 1, 5);
        faulty("(;B[b]])", 3, 3);
        faulty("(;B[\\b])", 3, 3);
        faulty("(;B[b\\])", 1, 8);
        faulty("(;SZ[]])", 3, 4);
        faulty("(;SZ[\\])", 1, 8);
    }

    /** "where a \ takes the byte behind it along" */
    private void aStrokeTakesTheNextByteAlong() {
        fine("(;C[\\]])");
        fine("(;C[\\\\])");
        faulty("(;C[\\\\]])", 1, 7);
        fine("(;C[\\\\\\]])");
        faulty("(;C[\\", 1, 5);
        faulty("(;C[\\]", 1, 6);
        faulty("(;C[\\\\", 1, 6);
        fine("(;C[\\[\\(\\;])");
        // It is a byte of the VALUE all the same.
        faulty("(;B[a\\a])", 3, 3);
        faulty("(;B[\\aa])", 3, 3);
        faulty("(;B[\\]])", 3, 3);
        faulty("(;SZ[\\5])", 3, 4);
        faulty("(;KM[\\-5])", 3, 4);
        // Out of a VALUE it is no byte that can stand.
        faulty("(;\\C[])", 1, 2);
    }

    /** "Between all these ... bytes 32, 10, 13 count nothing." */
    private void blanksCountNothingBetween() {
        String[] parts = {"(", ";", "SZ", "[5]", "KM", "[3]", ";", "B", "[aa]", "(", ";", "AW", "[bb]", "[cc]", ")", "(",
            ";", "W", "[]", ")", ")"};
        for (String blank : new String[] {"", " ", "\n", "\r", "\r\n", "   ", " \n \r "}) {
            StringBuilder text = new StringBuilder(blank);
            for (String part : parts) {
                text.append(part).append(blank);
            }
            fine(text.toString());
            check.due("III: blanks leave the text", Check.written(Check.roomOf(text.toString())),
                "(;SZ[5]KM[3];B[aa](;AW[bb][cc])(;W[]))");
        }
        for (int b : new int[] {0, 9, 11, 12, 14, 31, 33, 127, 128, 160, 255}) {
            faulty("(" + (char) b + ";)", 1, 1);
        }
    }

    /** "(not within NAMES and VALUES)" */
    private void blanksCountWithinNamesAndValues() {
        for (String blank : new String[] {" ", "\n", "\r"}) {
            faulty("(;A" + blank + "B[aa])", 1, 4);
            faulty("(;S" + blank + "Z[5])", 1, 4);
            faulty("(;B[" + blank + "aa])", 3, 3);
            faulty("(;B[a" + blank + "a])", 3, 3);
            faulty("(;B[aa" + blank + "])", 3, 3);
            faulty("(;B[" + blank + "])", 3, 3);
            faulty("(;AB[" + blank + "])", 3, 4);
            faulty("(;SZ[" + blank + "5])", 3, 4);
            faulty("(;SZ[5" + blank + "])", 3, 4);
            faulty("(;KM[-" + blank + "5])", 3, 4);
        }
    }

    /** "A text is one TREE, behind it nothing." */
    private void behindTheTreeIsNothing() {
        faulty("", 1, 0);
        faulty(" ", 1, 1);
        faulty("(;)(;)", 1, 3);
        faulty("(;)(", 1, 3);
        faulty("(;))", 1, 3);
        faulty("(;);", 1, 3);
        faulty("(;)x", 1, 3);
        faulty("(;) \n x", 1, 6);
        fine("(;) \n\r ");
    }

    /** "SZ (a NUMBER: the SIZE)", "a SIZE that is none" */
    private void sizesAreNumbers() {
        for (int size = 0; size <= 999; size++) {
            boolean is = size >= 3 && size <= 9;
            faulty("(;SZ[" + size + "])", is ? 0 : 3, is ? NONE : 4);
        }
        for (String size : new String[] {"", "-3", "+3", "3.", "3x", "x3", "5:5", "003 ", "0x5", "1003", "0003"}) {
            faulty("(;SZ[" + size + "])", 3, 4);
        }
        check.due("III: 9 by 9 without SZ", Check.roomOf("(;)").count(2), 9);
    }

    /** "KM (a NUMBER, perhaps - ahead: KOMI, half points for WHITE, -200 to 200)" */
    private void komisAreNumbers() {
        for (int komi = -999; komi <= 999; komi++) {
            boolean is = komi >= -200 && komi <= 200;
            StoneRoom x = new StoneRoom();
            check.due("III: KM[" + komi + "]", Check.read(x, "(;KM[" + komi + "])"), is ? 0 : 3);
            check.due("III: KOMI of KM[" + komi + "]", x.count(3), is ? komi : 0);
            check.due("III: the place in KM[" + komi + "]", x.place(), is ? NONE : 4);
        }
        for (String komi : new String[] {"", "-", "--5", "5-", "-5-", "+5", "6.5", "0.5", "1000", "-1000", "0000"}) {
            faulty("(;KM[" + komi + "])", 3, 4);
        }
        check.due("III: KOMI without KM", Check.roomOf("(;)").count(3), 0);
        StoneRoom y = new StoneRoom();
        y.begin(5, 7);
        Check.read(y, "(;)");
        check.due("III: KOMI of before is gone", y.count(3), 0);
    }

    /** "A NUMBER: one to three digits." */
    private void numbersHaveOneToThreeDigits() {
        for (String zeros : new String[] {"", "0", "00", "000"}) {
            int fault = zeros.length() < 3 ? 0 : 3;
            int place = zeros.length() < 3 ? NONE : 4;
            faulty("(;SZ[" + zeros + "7])", fault, place);
            faulty("(;KM[" + zeros + "7])", fault, place);
            faulty("(;KM[-" + zeros + "7])", fault, place);
        }
        check.due("III: KM[-007]", Check.roomOf("(;KM[-007])").count(3), -7);
        check.due("III: KM[-0]", Check.roomOf("(;KM[-0])").count(3), 0);
        check.due("III: SZ[007]", Check.roomOf("(;SZ[007])").count(2), 7);
    }

    /** "B, W (one VALUE: a POINT, or empty: PASS)" */
    private void movesHaveOneValue() {
        for (String name : new String[] {"B", "W"}) {
            fine("(;" + name + "[aa])");
            check.due("III: empty is a PASS", Check.roomOf("(;" + name + "[])").node(0, 1), 2);
            check.due("III: a POINT is a PLAY", Check.roomOf("(;" + name + "[aa])").node(0, 1), 1);
            faulty("(;" + name + "[a])", 3, 3);
            faulty("(;" + name + "[aaa])", 3, 3);
            faulty("(;" + name + "[aa:bb])", 3, 3);
            faulty("(;" + name + "[aa][bb])", 3, 7);
            faulty("(;" + name + "[][])", 3, 5);
            faulty("(;" + name + "[aa]\n[])", 3, 8);
            faulty("(;" + name + "[tt])", 3, 3);
        }
    }

    /** "AB, AW, AE (POINTS: SET to black, white, empty)" */
    private void settersHavePoints() {
        for (String name : new String[] {"AB", "AW", "AE"}) {
            fine("(;" + name + "[aa])");
            fine("(;" + name + "[aa][ii] [ai]\n[ia])");
            faulty("(;" + name + "[])", 3, 4);
            faulty("(;" + name + "[aa][])", 3, 8);
            faulty("(;" + name + "[a])", 3, 4);
            faulty("(;" + name + "[aaa])", 3, 4);
            faulty("(;" + name + "[aa:bb])", 3, 4);
            faulty("(;" + name + ")", 1, 4);
        }
        StoneRoom x = Check.roomOf("(;SZ[3]AB[aa]AW[ba]AE[ca];AE[aa]AB[ba]AW[ca])");
        check.due("III: black", x.at(0), 1);
        check.due("III: white", x.at(1), 2);
        check.due("III: empty", x.at(2), 0);
        x.to(1);
        check.due("III: empty over black", x.at(0), 0);
        check.due("III: black over white", x.at(1), 1);
        check.due("III: white over empty", x.at(2), 2);
    }

    /** "Others count nothing, whatever they have." */
    private void othersCountNothing() {
        for (String name : new String[] {"C", "A", "Z", "BW", "WB", "BA", "ABE", "SZZ", "S", "KMM", "AZ", "PL", "FF"}) {
            fine("(;" + name + "[])");
            fine("(;" + name + "[zz][zz][(;])");
            fine("(;" + name + "[a]" + name + "[a]B[aa]" + name + "[b];" + name + "[c]AB[bb])");
            check.due("III: " + name + " counts nothing",
                Check.written(Check.roomOf("(;SZ[3]" + name + "[cc]AB[aa];" + name + "[4])")), "(;SZ[3]AB[aa];)");
        }
        faulty("(;C)", 1, 3);
        faulty("(;C[", 1, 4);
    }

    /** "A POINT: two small letters, first its column, then its row, a being 0." */
    private void pointsAreColumnThenRow() {
        for (int size = 3; size <= 9; size += 3) {
            for (int p = 0; p < size * size; p++) {
                StoneRoom x = Check.roomOf("(;SZ[" + size + "];B" + Check.value(size, p) + ")");
                check.due("III: " + Check.value(size, p) + " of " + size, x.node(1, 4), p);
            }
        }
        check.due("III: ba", Check.roomOf("(;B[ba])").node(0, 4), 1);
        check.due("III: ab", Check.roomOf("(;B[ab])").node(0, 4), 9);
    }

    /** "1 a byte that can't stand there, or the end (at it)" */
    private void theFaultIsAtTheFirstByteOrTheEnd() {
        String text = "(;SZ[5]AB[aa][bb];B[cc](;W[dd])(;W[]))";
        for (int n = 0; n < text.length(); n++) {
            faulty(text.substring(0, n), 1, n);
            faulty(text.substring(0, n) + "  ", 1, n + 2);
        }
        fine(text);
        faulty("(;B[aa)             ", 1, 20);
        faulty("(;B[zz", 1, 6);
        faulty("(;KM[9999", 1, 9);
        faulty("(;B[aa][", 1, 8);
    }

    private int dueOfPair(String first, String second) {
        String moves = " B W ";
        String setters = " AB AW AE ";
        boolean move = moves.contains(" " + first + " ");
        boolean set = setters.contains(" " + first + " ");
        if (first.equals(second)) {
            return first.equals("C") ? 0 : 2;
        }
        if (second.equals("SZ") || moves.contains(" " + second + " ")) {
            return move || set ? 2 : 0;
        }
        return setters.contains(" " + second + " ") && move ? 2 : 0;
    }

    /** "2 one of these told twice in a NODE; B or W beside another ...; SZ behind one of B, W, AB, AW, AE" */
    private void namesBesideOneAnother() {
        for (int i = 0; i < NAMES.length; i++) {
            for (int j = 0; j < NAMES.length; j++) {
                int due = dueOfPair(NAMES[i], NAMES[j]);
                String ahead = "(;" + NAMES[i] + VALUES[i];
                faulty(ahead + NAMES[j] + VALUES[j] + ")", due, due == 0 ? NONE : ahead.length());
                faulty(ahead + "\n" + NAMES[j] + VALUES[j] + ")", due, due == 0 ? NONE : ahead.length() + 1);
                // Another between them changes nothing; nor does a value that is wrong, or missing.
                faulty(ahead + "XX[y]" + NAMES[j] + VALUES[j] + ")", due, due == 0 ? NONE : ahead.length() + 5);
                if (due == 2) {
                    faulty(ahead + NAMES[j] + "[0~])", 2, ahead.length());
                    faulty(ahead + NAMES[j], 2, ahead.length());
                }
                if (i > 1 && j > 1) {
                    // In two NODES, each is told once.
                    fine(ahead + ";" + NAMES[j] + (i == j ? "[ii]" : VALUES[j]) + ")");
                }
            }
        }
        fine("(;AB[aa]AW[bb]AE[cc]KM[5])");
        fine("(;AE[aa]AW[bb]AB[cc])");
        faulty("(;AB[aa]AW[bb]AE[cc]AB[dd])", 2, 20);
        faulty("(;KM[5]SZ[5]KM[5])", 2, 12);
    }

    private void namesThatAreNotQuiteThese() {
        fine("(;B[aa]BB[bb]WB[bb])");
        fine("(;AB[aa]ABB[aa]AAB[aa])");
        fine("(;B[aa]SZZ[5]KKM[9];SZZ[5]ZS[5]MK[4])");
        fine("(;SZ[5]SS[5]ZZ[5]KK[1]MM[1]AA[zz]EE[zz]WA[zz]EA[zz])");
    }

    /** "SZ, KM in another NODE than the first" */
    private void sizeAndKomiAreTheRoots() {
        for (String name : new String[] {"SZ[5]", "KM[5]"}) {
            fine("(;" + name + ")");
            fine("(;C[]" + name + ";)");
            faulty("(;;" + name + ")", 2, 3);
            faulty("(;(;" + name + "))", 2, 4);
            faulty("(;(;)(;" + name + "))", 2, 7);
            faulty("(;;C[] " + name + ")", 2, 7);
            faulty("(;B[aa];B[bb]" + name + ")", 2, 13);
        }
        faulty("(;SZ[5];SZ[5])", 2, 8);
        faulty("(;SZ[5];SZ)", 2, 8);
        faulty("(;;KM", 2, 3);
    }

    /** "3 a VALUE that is not as told, or one too many" */
    private void valuesOneTooMany() {
        faulty("(;SZ[5][5])", 3, 7);
        faulty("(;KM[5][5])", 3, 7);
        faulty("(;KM[5] \n[6])", 3, 9);
        faulty("(;B[aa][bb])", 3, 7);
        faulty("(;W[][aa])", 3, 5);
        faulty("(;SZ[5][5][5])", 3, 7);
        faulty("(;SZ[0][5])", 3, 4);
        fine("(;AB[aa][bb][cc][dd])");
    }

    /** "a POINT that is not on the board (9 by 9, unless SZ stands ahead)" */
    private void pointsOffTheBoard() {
        for (int size = 3; size <= 9; size++) {
            char last = (char) ('a' + size - 1);
            char next = (char) ('a' + size);
            String root = "(;SZ[" + size + "]";
            for (String name : new String[] {"B", "W", "AB", "AW", "AE"}) {
                int at = root.length() + name.length();
                fine(root + name + "[" + last + last + "])");
                faulty(root + name + "[" + next + "a])", 3, at);
                faulty(root + name + "[a" + next + "])", 3, at);
                faulty(root + ";" + name + "[a" + next + "])", 3, at + 1);
                fine(root + ";" + name + "[" + last + last + "])");
            }
        }
        fine("(;B[ii])");
        faulty("(;B[ji])", 3, 3);
        faulty("(;B[ij])", 3, 3);
        fine("(;AE[ii])");
        faulty("(;AE[ij])", 3, 4);
        faulty("(;KM[5]SZ[4]B[ea])", 3, 13);
        // The SIZE of the game that stands does not matter.
        StoneRoom x = new StoneRoom();
        x.begin(3, 0);
        check.due("III: 9 by 9", Check.read(x, "(;B[ii])"), 0);
    }

    /** "or that this NODE has SET already" */
    private void pointsSetTwice() {
        String[] names = {"AB", "AW", "AE"};
        for (String first : names) {
            faulty("(;" + first + "[aa][aa])", 3, 8);
            faulty("(;" + first + "[ii][aa][ii])", 3, 12);
            for (String second : names) {
                if (!first.equals(second)) {
                    faulty("(;" + first + "[aa]" + second + "[aa])", 3, 10);
                    faulty("(;" + first + "[ii]" + second + "[aa][ii])", 3, 14);
                }
                fine("(;" + first + "[aa];" + second + "[aa])");
            }
        }
        fine("(;AB[aa](;AW[aa])(;AE[aa]))");
    }

    /** "4 a PLAY that is not let (by the colour that it tells, whosever TURN it is; STATUS 1 to 5 but TURN...)" */
    private void playsThatAreNotLet() {
        faulty("(;B[aa];W[aa])", 4, 7);
        faulty("(;B[aa];B[aa])", 4, 7);
        faulty("(;AW[aa];B[aa])", 4, 8);
        faulty("(;SZ[3]AB[ba][ab];W[aa])", 4, 17);
        fine("(;SZ[3]AB[ba][ab];B[aa])");
        fine("(;SZ[3]AB[ba][ab]AW[ca][bb];W[aa])");
        faulty("(;SZ[3]AB[ba][ab]AW[bb];W[aa])", 4, 23);
        // The same colour again and again.
        fine("(;B[aa];B[bb];B[cc];W[dd];W[ee];W[];W[ff])");
        String ko = "(;SZ[5]AB[ba][ab][bc]AW[ca][db][cc][bb];B[cb];W[bb])";
        for (int rule = 0; rule <= 2; rule++) {
            StoneRoom x = new StoneRoom();
            x.ko(rule);
            check.due("III: KO as set now, " + rule, Check.read(x, ko), 4);
            check.due("III: its place", x.place(), 45);
        }
        // One more PASS by each: KO 0 lets it.
        String later = "(;SZ[5]AB[ba][ab][bc]AW[ca][db][cc][bb];B[cb];W[];B[];W[bb])";
        int[] due = {0, 4, 4};
        for (int rule = 0; rule <= 2; rule++) {
            StoneRoom x = new StoneRoom();
            x.ko(rule);
            check.due("III: behind passes, KO " + rule, Check.read(x, later), due[rule]);
        }
        // BLACK's TURN behind the play, and at the ROOT; WHITE's behind the play, BLACK's at the ROOT.
        StoneRoom y = new StoneRoom();
        y.ko(2);
        check.due("III: KO 2 by the colour that is told", Check.read(y, "(;SZ[5]AB[aa]AW[bb];AE[bb];W[bb])"), 4);
        check.due("III: KO 2, another TURN", Check.read(y, "(;SZ[5]AB[aa]AW[bb];AE[aa];B[aa])"), 0);
        // Boards of another branch bar nothing.
        fine("(;SZ[3](;B[aa];W[bb];B[cc])(;B[cc];W[bb];B[aa]))");
    }

    /** "OVER is no fault" */
    private void overIsNoFault() {
        fine("(;B[];W[];B[aa])");
        fine("(;B[];W[];B[];W[];B[])");
        fine("(;B[];W[];AB[aa])");
        faulty("(;B[aa];B[];W[];B[aa])", 4, 15);
    }

    /** "5 a SET (all of it done) that leaves a chain without LIBERTIES" */
    private void setsLeaveLiberties() {
        faulty("(;SZ[3]AB[ba][ab]AW[aa])", 5, 1);
        faulty("(;SZ[3]AW[aa]AB[ba][ab])", 5, 1);
        fine("(;SZ[3]AW[aa]AB[ba])");
        // Which chain it is, and who set it, does not matter.
        faulty("(;SZ[3]AW[aa]AB[ba];AB[ab])", 5, 19);
        faulty("(;SZ[3]AB[ba][ab];AW[aa])", 5, 17);
        faulty("(;SZ[3]AW[aa][ba]AB[ab][bb];AB[ca])", 5, 27);
        faulty("(;SZ[3]AB[bc][cb];;AW[cc];)", 5, 18);
        // All of it is done first: what would stifle is gone by its end.
        fine("(;SZ[3]AW[aa]AB[ba];AB[ab]AE[aa])");
        fine("(;SZ[3]AW[aa]AB[ba];AB[ab]AE[ba])");
        fine("(;SZ[3]AW[aa]AB[ba];AB[ab][aa])");
        // A full board.
        StringBuilder eight = new StringBuilder("(;SZ[3]AB");
        for (int p = 0; p < 8; p++) {
            eight.append(Check.value(3, p));
        }
        fine(eight + ")");
        faulty(eight + "[cc])", 5, 1);
        faulty(eight + "AW[cc])", 5, 1);
        faulty(eight + ";AW[cc])", 5, eight.length());
        fine(eight + ";W[cc])");
        faulty(eight + ";B[cc])", 4, eight.length());
    }

    /** "6 the 251st NODE", "6 is asked first" */
    private void the251stNodeIsAskedFirst() {
        String full = "(" + ";".repeat(250);
        fine(full + ")");
        faulty(full + ";)", 6, 251);
        faulty(full + ";", 6, 251);
        faulty(full + " ;)", 6, 252);
        faulty(full + "(;))", 6, 252);
        faulty(full + ";x", 6, 251);
        faulty(full + ";SZ[5]", 6, 251);
        faulty(full + ";B[zz]", 6, 251);
        faulty(full + ";B[aa];B[aa]", 6, 251);
        faulty(full + "x", 1, 251);
        faulty(full, 1, 251);
        faulty(full + "()", 1, 252);
        // The 250th is asked for its own faults, and all of a branched text counts.
        String most = "(" + ";".repeat(248) + ";B[aa]";
        faulty(most + ";B[aa])", 4, 255);
        faulty(most + ";B[zz])", 3, 257);
        fine("(;" + "(;)".repeat(249) + ")");
        faulty("(;" + "(;)".repeat(250) + ")", 6, 2 + 3 * 249 + 1);
    }

    /** "4, 5 behind its PROPERTIES, as what follows is no great letter, whatever it is" */
    private void playsAndSetsAreAskedBehindTheirProperties() {
        String play = "(;B[aa];W[aa]";
        String set = "(;SZ[3]AB[ba][ab];AW[aa]";
        for (int b = 0; b < 256; b++) {
            if (!isGreat(b) && b != '[') {
                faulty(play + (char) b, 4, 7);
                faulty(set + (char) b, 5, 17);
            }
        }
        faulty(play, 4, 7);
        faulty(set, 5, 17);
        faulty(play + " \n", 4, 7);
        // A great letter goes on, and its faults come ahead.
        faulty(play + "C", 1, 14);
        faulty(play + "C[", 1, 15);
        faulty(play + "C[]", 4, 7);
        faulty(play + "C[]x", 4, 7);
        faulty(play + "Cx", 1, 14);
        faulty(play + "B[bb])", 2, 13);
        faulty(play + "[bb])", 3, 13);
        faulty(play + "KM[5])", 2, 13);
        faulty(set + "[zz])", 3, 24);
        faulty(set + "AE[zz])", 3, 26);
        faulty(set + "AB[bb]", 5, 17);
        fine(set + "AE[ab])");
        // A NODE without a move is a SET of nothing.
        fine("(;SZ[3]AB[ba][ab];C[])");
    }

    /** "FAULTS, the first along the text" */
    private void theFirstFaultAlongTheText() {
        faulty("(;B[zz]W[aa])", 3, 3);
        faulty("(;B[aa]W[zz])", 2, 7);
        faulty("(;AB[aa][zz][aa])", 3, 8);
        faulty("(;AB[zz]", 3, 4);
        faulty("(;SZ[2]SZ[2])", 3, 4);
        faulty("(;B[aa];W[aa];SZ[5])", 4, 7);
        faulty("(;B[aa];W[bb]SZ[5];W[aa])", 2, 13);
        faulty("(;SZ[3]AB[ba][ab]AW[aa];SZ[5])", 5, 1);
        faulty("(;x(;B[zz]))", 1, 2);
        faulty("(;B[aa](;W[aa])(;W[zz]))", 4, 8);
        faulty("(;B[aa](;W[zz])(;W[aa]))", 3, 10);
    }

    /** "A text that is read is the GAME: its NODES in the order of the text; the PLACE is the ROOT." */
    private void aTextIsTheGame() {
        StoneRoom x = new StoneRoom();
        x.begin(5, 9);
        x.play(0);
        x.play(1);
        check.due("III: read", Check.read(x, "(;SZ[4];B[aa](;W[ba](;B[ca])(;B[da]))(;W[ab];B[bb]))"), 0);
        int[] parents = {NONE, 0, 1, 2, 2, 1, 5};
        int[] points = {NONE, 0, 1, 2, 3, 4, 5};
        check.due("III: NODES", x.count(0), 7);
        check.due("III: the PLACE", x.count(1), 0);
        check.due("III: SIZE", x.count(2), 4);
        check.due("III: KOMI", x.count(3), 0);
        check.due("III: the BOARD is the ROOT's", x.count(7), 0);
        for (int k = 0; k < parents.length; k++) {
            check.due("III: PARENT of " + k, x.node(k, 0), parents[k]);
            check.due("III: POINT of " + k, x.node(k, 4), points[k]);
        }
        StoneRoom y = Check.roomOf("(;)");
        check.due("III: the least text", y.count(0), 1);
    }

    private void written(String text, String due) {
        StoneRoom x = Check.roomOf(text);
        check.due("III: WRITTEN " + text, Check.written(x), due);
        check.due("III: bytes of " + text, x.write(), due.length());
        // What is WRITTEN is read, and WRITTEN again the same.
        check.due("III: read again", Check.read(x, due), 0);
        check.due("III: WRITTEN again", Check.written(x), due);
    }

    /** "(;SZ[n], KM[k] if it is not 0" */
    private void writtenHeads() {
        for (int size = 3; size <= 9; size++) {
            StoneRoom x = new StoneRoom();
            x.begin(size, 0);
            check.due("III: SIZE " + size, Check.written(x), "(;SZ[" + size + "])");
        }
        for (int komi : new int[] {-200, -199, -101, -100, -99, -11, -10, -9, -1, 1, 9, 10, 11, 99, 100, 101, 109, 199, 200}) {
            StoneRoom x = new StoneRoom();
            x.begin(3, komi);
            check.due("III: KOMI " + komi, Check.written(x), "(;SZ[3]KM[" + komi + "])");
        }
        written("(;)", "(;SZ[9])");
        written("(;KM[000])", "(;SZ[9])");
        written("(;KM[-0]SZ[004])", "(;SZ[4])");
        written("(;KM[-010])", "(;SZ[9]KM[-10])");
        written("(;B[aa]KM[3])", "(;SZ[9]KM[3]B[aa])");
        written("(;W[])", "(;SZ[9]W[])");
    }

    /** "AB, AW, AE with POINTS by numbers (those that are there)" */
    private void writtenSets() {
        written("(;AE[aa]AW[bb]AB[cc])", "(;SZ[9]AB[cc]AW[bb]AE[aa])");
        written("(;AB[ii][ab][ba][aa])", "(;SZ[9]AB[aa][ba][ab][ii])");
        written("(;AW[ib][ai])", "(;SZ[9]AW[ib][ai])");
        written("(;AE[ee])", "(;SZ[9]AE[ee])");
        written("(;;AE[bb][aa]AB[dd];AW[ba])", "(;SZ[9];AB[dd]AE[aa][bb];AW[ba])");
        // A SET of what is there already is WRITTEN all the same.
        written("(;AB[aa];AB[aa];AE[bb];)", "(;SZ[9]AB[aa];AB[aa];AE[bb];)");
        // Each POINT of the board, the last one too, as AE.
        StringBuilder all = new StringBuilder("(;SZ[9]AE");
        for (int p = 0; p < 81; p++) {
            all.append(Check.value(9, p));
        }
        written(all + ")", all + ")");
    }

    /** "where a NODE has several children each is a TREE of its own; nothing else stands between" */
    private void writtenTrees() {
        written(" ( ; ; C[x] ; B[aa] ) ", "(;SZ[9];;B[aa])");
        written("(;(;))", "(;SZ[9];)");
        written("(;(;)(;))", "(;SZ[9](;)(;))");
        written("(;;(;;)(;;(;)(;)(;)))", "(;SZ[9];(;;)(;;(;)(;)(;)))");
        written("(;(;B[](;W[])(;W[aa])))", "(;SZ[9];B[](;W[])(;W[aa]))");
        // Children that came later stand behind those that came first, whatever came between.
        StoneRoom x = new StoneRoom();
        x.begin(3, 0);
        x.play(8);
        x.play(0);
        x.to(0);
        x.play(4);
        x.to(1);
        x.play(1);
        x.to(0);
        x.play(NONE);
        check.due("III: children by numbers", Check.written(x),
            "(;SZ[3](;B[cc](;W[aa])(;W[ba]))(;B[bb])(;B[]))");
        check.due("III: read again", Check.read(x, Check.written(x)), 0);
        check.due("III: the numbers are the text's then", x.node(2, 4), 0);
    }
}
