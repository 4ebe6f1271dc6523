import java.util.function.Supplier;

/**
 * The 28 promises, each with its own boundary sentences: the last value that is taken, the first that is not, the empty
 * and the full case, and that a refused call changes nothing that later calls show.
 */
public final class PromiseEdgesTest {
    private static final int NONE = StoneRoom.NONE;
    private static final int MIN = Integer.MIN_VALUE;
    private static final int MAX = Integer.MAX_VALUE;
    private static final int[] NO_POINTS = {MIN, -2, -1, 9, 10, 81, MAX};

    private final Check check = new Check();
    /** A room in which every call has something to spoil. */
    private final Supplier<StoneRoom> used = PromiseEdgesTest::usedRoom;

    public static void main(String[] args) {
        PromiseEdgesTest test = new PromiseEdgesTest();
        test.newObject();
        test.begin();
        test.ko();
        test.feed();
        test.end();
        test.read();
        test.place();
        test.write();
        test.octet();
        test.let();
        test.play();
        test.back();
        test.on();
        test.to();
        test.node();
        test.at();
        test.chain();
        test.liberty();
        test.region();
        test.ladder();
        test.steps();
        test.dead();
        test.score();
        test.ahead();
        test.clocks();
        test.clock();
        test.time();
        test.count();
        test.the512thCall();
        test.check.close("PromiseEdgesTest");
    }

    /** On 3 by 3: black took a stone, one chain is dead, OUT, tape, clocks, a fault and a ladder are there. */
    private static StoneRoom usedRoom() {
        StoneRoom x = new StoneRoom();
        Check.read(x, "(;x");
        x.begin(5, 9);
        x.write();
        Check.read(x, "(;SZ[3]KM[-7]AB[ba]AW[aa];B[ab](;W[cc];B[bb])(;W[bb]))");
        x.to(2);
        x.ladder(8);
        Check.read(x, "(;)x");
        x.dead(8, true);
        x.ko(2);
        x.clocks(20, 3, 5);
        x.clock(1, 7);
        x.clock(2, 26);
        Check.lay(x, "(;SZ[4]B[aa])");
        return x;
    }

    /** Promise 1: "An empty GAME of SIZE 9, KOMI 0, KO 1; no clocks run (MAIN 0, no PERIODS)." */
    private void newObject() {
        StoneRoom x = new StoneRoom();
        int[] counts = {1, 0, 9, 0, 1, 0, 0, 0, 0, 1};
        for (int what = 0; what < counts.length; what++) {
            check.due("1: count(" + what + ")", x.count(what), counts[what]);
        }
        for (int point = 0; point < 81; point++) {
            check.due("1: at(" + point + ")", x.at(point), 0);
        }
        int[] root = {NONE, 0, NONE, 0, NONE, 0, 0, 1, 0};
        for (int what = 0; what < root.length; what++) {
            check.due("1: node(0, " + what + ")", x.node(0, what), root[what]);
        }
        for (int colour = 1; colour <= 2; colour++) {
            for (int what = 0; what <= 2; what++) {
                check.due("1: time(" + colour + ", " + what + ")", x.time(colour, what), 0);
            }
        }
        check.due("1: no read() yet", x.place(), NONE);
        check.due("1: no OUT yet", x.octet(0), NONE);
        check.due("1: no ladder() yet", x.steps(0), NONE);
        check.due("1: no ladder() yet", x.steps(1), NONE);
        check.due("1: it is as begin(9, 0) makes it", Shown.game(x), Shown.game(begun(9, 0)));
    }

    private static StoneRoom begun(int size, int komi) {
        StoneRoom x = new StoneRoom();
        x.begin(size, komi);
        return x;
    }

    /** Promise 2: "false, and nothing happens, if the SIZE is not 3 to 9, KOMI not -200 to 200" */
    private void begin() {
        int[][] wrong = {{2, 0}, {10, 0}, {0, 0}, {-3, 0}, {MIN, 0}, {MAX, 0}, {3, 201}, {9, -201}, {5, MIN}, {5, MAX},
            {2, 200}, {10, -200}, {2, 201}};
        for (int[] w : wrong) {
            check.leaves("2: begin(" + w[0] + ", " + w[1] + ")", used, x -> Check.bit(x.begin(w[0], w[1])), 0);
        }
        int[][] right = {{3, 0}, {9, 0}, {3, 200}, {9, -200}, {4, 199}, {8, -199}};
        for (int[] r : right) {
            StoneRoom x = usedRoom();
            check.due("2: begin(" + r[0] + ", " + r[1] + ")", x.begin(r[0], r[1]), true);
            check.due("2: SIZE", x.count(2), r[0]);
            check.due("2: KOMI", x.count(3), r[1]);
            check.due("2: NODES", x.count(0), 1);
            check.due("2: the PLACE", x.count(1), 0);
            check.due("2: TURN", x.count(4), 1);
            check.due("2: stones", x.count(7), 0);
            check.due("2: TAKEN", x.score(1, 2), 0);
            // What is no part of the GAME stays.
            check.due("2: KO", x.count(9), 2);
            check.due("2: the TAPE", x.count(8), 13);
            check.due("2: the FAULT's place", x.place(), 3);
            check.due("2: OUT", x.octet(4), '[');
            check.due("2: STEPS", x.steps(0) >= 0, true);
            check.due("2: MAIN", x.time(1, 0), 13);
        }
        StoneRoom over = begun(3, 0);
        over.play(NONE);
        over.play(NONE);
        over.begin(3, 0);
        check.due("2: OVER no more", over.play(0), 0);
        StoneRoom full = Check.roomOf("(" + ";".repeat(250) + ")");
        full.begin(3, 0);
        check.due("2: not full any more", full.play(0), 0);
        // NODE 3 was a child of 1 in the GAME before; in the new one it is the same move, but a child of 2.
        StoneRoom anew = begun(3, 0);
        branch(anew, 1);
        anew.begin(3, 0);
        branch(anew, 2);
        anew.to(1);
        check.due("2: a child of the GAME before is none", anew.play(8), 0);
        check.due("2: a new NODE", anew.count(1), 4);
        check.due("2: its PARENT", anew.node(4, 0), 1);
    }

    /** Two plays behind the ROOT, and one behind one of these. */
    private static void branch(StoneRoom x, int behind) {
        x.play(0);
        x.back(1);
        x.play(1);
        x.to(behind);
        x.play(8);
    }

    /** Promise 3: "what it was; NONE, and nothing changes, if it is not 0, 1, 2" */
    private void ko() {
        for (int k : new int[] {MIN, -2, -1, 3, 4, MAX}) {
            check.leaves("3: ko(" + k + ")", used, x -> x.ko(k), NONE);
        }
        StoneRoom x = new StoneRoom();
        int was = 1;
        for (int k : new int[] {0, 0, 1, 2, 2, 0, 2, 1, 1, 0}) {
            check.due("3: ko(" + k + ")", x.ko(k), was);
            check.due("3: count(9)", x.count(9), k);
            was = k;
        }
    }

    private static StoneRoom taped(int bytes) {
        StoneRoom x = new StoneRoom();
        x.begin(3, 0);
        Check.lay(x, ("(;C[" + "x".repeat(1494) + "])").substring(0, bytes));
        return x;
    }

    /** Promise 4: "of each number the highest first: how many it has; NONE, and none comes" */
    private void feed() {
        check.due("4: the first", new StoneRoom().feed(0, 0, 0, 0, 0), 20);
        check.due("4: behind one byte", taped(1).feed(0, 0, 0, 0, 0), 21);
        check.due("4: to the last byte", taped(1480).feed(0, 0, 0, 0, 0), 1500);
        for (int bytes : new int[] {1481, 1482, 1499, 1500}) {
            check.leaves("4: feed behind " + bytes, () -> taped(bytes), x -> x.feed(1, 2, 3, 4, 5), NONE);
        }
        StoneRoom x = new StoneRoom();
        for (int i = 1; i <= 75; i++) {
            check.due("4: feed " + i, x.feed(MIN, -1, 0, 1, MAX), 20 * i);
        }
        check.due("4: feed 76", x.feed(MIN, -1, 0, 1, MAX), NONE);
        check.due("4: bytes", x.count(8), 1500);
        // Twenty bytes in their order: the text stands or falls with each.
        String text = "(;SZ[7]KM[12];B[ab])";
        check.due("the test's own text", text.length(), 20);
        StoneRoom y = new StoneRoom();
        y.feed(0x283b535a, 0x5b375d4b, 0x4d5b3132, 0x5d3b425b, 0x61625d29);
        check.due("4: read", y.read(), 0);
        check.due("4: written", Check.written(y), text);
        // Bytes above 127 are bytes as others are.
        StoneRoom z = new StoneRoom();
        z.feed(0x283b435b, 0x80ff9ce9, 0xdbdda8a9, 0xbbc1da5d, 0x29202020);
        check.due("4: high bytes in a VALUE", z.read(), 0);
        z.feed(0x283b43db, 0x5d292020, 0, 0, 0);
        check.due("4: a high byte is no [", z.read(), 1);
        check.due("4: its place", z.place(), 3);
        // What comes behind an end() overwrites what was cut.
        StoneRoom w = new StoneRoom();
        w.feed(-1, -1, -1, -1, -1);
        w.end(0);
        w.feed(0x283b2920, 0x20202020, 0x20202020, 0x20202020, 0x20202020);
        check.due("4: the bytes are new", w.read(), 0);
    }

    /** Promise 5: "n; NONE, and nothing happens, if it has not so many, or n is below 0" */
    private void end() {
        for (int bytes : new int[] {0, 1, 13, 20, 1499, 1500}) {
            for (int n : new int[] {MIN, -1, bytes + 1, bytes + 2, 1501, MAX}) {
                check.leaves("5: end(" + n + ") of " + bytes, () -> taped(bytes), x -> x.end(n), NONE);
            }
            check.leaves("5: end of all " + bytes, () -> taped(bytes), x -> x.end(bytes), bytes);
            StoneRoom x = taped(bytes);
            check.due("5: end(0) of " + bytes, x.end(0), 0);
            check.due("5: bytes", x.count(8), 0);
            check.due("5: end(1) then", x.end(1), NONE);
            if (bytes > 0) {
                StoneRoom y = taped(bytes);
                check.due("5: end of one less than " + bytes, y.end(bytes - 1), bytes - 1);
                check.due("5: bytes", y.count(8), bytes - 1);
                check.due("5: what is cut is gone", y.end(bytes), NONE);
            }
        }
        StoneRoom z = new StoneRoom();
        Check.lay(z, "(;)(;)");
        z.end(3);
        check.due("5: its first bytes alone", z.read(), 0);
    }

    /** Promise 6: "The TAPE, which is empty then, is read: 0; or its FAULT, and the GAME stays." */
    private void read() {
        String[] faulty = {"", "(;SZ[5]x", "(;SZ[5];SZ[5])", "(;SZ[5]KM[201])", "(;SZ[5]B[aa];W[aa])",
            "(;SZ[5]AB[ba][ab]AW[aa])", "(;SZ[5]" + ";".repeat(250) + ")"};
        for (int fault = 0; fault < faulty.length; fault++) {
            StoneRoom x = usedRoom();
            x.end(0);
            String before = Shown.game(x);
            check.due("6: read of " + faulty[fault], Check.read(x, faulty[fault]), Math.max(1, fault));
            check.due("6: the GAME stays", Shown.game(x), before);
            check.due("6: the TAPE is empty", x.count(8), 0);
            check.due("6: KO stays", x.count(9), 2);
            check.due("6: MAIN stays", x.time(1, 0), 13);
            check.due("6: read again, of nothing", x.read(), 1);
            check.due("6: at its end", x.place(), 0);
            check.due("6: a good text behind it", Check.read(x, "(;SZ[4]B[aa])"), 0);
            check.due("6: SIZE", x.count(2), 4);
        }
        StoneRoom y = usedRoom();
        check.due("6: read", y.read(), 0);
        check.due("6: the TAPE is empty", y.count(8), 0);
        check.due("6: NODES", y.count(0), 1);
        check.due("6: the PLACE", y.count(1), 0);
        check.due("6: SIZE", y.count(2), 4);
        check.due("6: KOMI", y.count(3), 0);
        check.due("6: stones", y.count(7), 1);
        check.due("6: KO", y.count(9), 2);
        check.due("6: MAIN", y.time(1, 0), 13);
        check.due("6: OUT", y.octet(4), '[');
        check.due("6: the old NODES are gone", y.to(1), false);
        // Twice over, so that what a text before it has left does not show.
        StoneRoom z = Check.roomOf("(;SZ[3]KM[5]AB[aa][bb]AE[cc];W[ba];B[ca](;W[])(;AW[ac]))");
        check.due("6: the second", Check.read(z, "(;;;;;)"), 0);
        check.due("6: the third", Check.read(z, "(;;;;;)"), 0);
        check.due("6: WRITTEN", Check.written(z), "(;SZ[9];;;;)");
        check.due("6: it is as by itself", Shown.game(z), Shown.game(Check.roomOf("(;;;;;)")));
    }

    /** Promise 7: "The place of the FAULT of the latest read(); NONE without." */
    private void place() {
        StoneRoom x = new StoneRoom();
        check.due("7: without a read()", x.place(), NONE);
        Check.lay(x, "(;)x");
        check.due("7: laid, not read", x.place(), NONE);
        x.read();
        check.due("7: of a FAULT", x.place(), 3);
        check.due("7: asked again", x.place(), 3);
        x.begin(3, 0);
        check.due("7: begin() is no read()", x.place(), 3);
        Check.read(x, "x");
        check.due("7: 0 is a place", x.place(), 0);
        Check.read(x, "(;)");
        check.due("7: without a FAULT", x.place(), NONE);
        Check.read(x, "(;C[" + "x".repeat(1496));
        check.due("7: the end of a full TAPE", x.place(), 1500);
        x.read();
        check.due("7: the end of an empty TAPE", x.place(), 0);
        check.leaves("7: place()", used, StoneRoom::place, 3);
    }

    /** Promise 8: "The GAME is WRITTEN to OUT: how many bytes." */
    private void write() {
        check.due("8: the least", new StoneRoom().write(), 8);
        StoneRoom x = usedRoom();
        String before = Shown.game(x);
        check.due("8: bytes", x.write(), "(;SZ[3]KM[-7]AB[ba]AW[aa];B[ab](;W[cc];B[bb])(;W[bb]))".length());
        check.due("8: the GAME stays", Shown.game(x), before);
        check.due("8: written", Check.written(x), "(;SZ[3]KM[-7]AB[ba]AW[aa];B[ab](;W[cc];B[bb])(;W[bb]))");
        x.begin(9, 0);
        check.due("8: a shorter one", x.write(), 8);
        check.due("8: its last byte", x.octet(7), ')');
        check.due("8: nothing of the longer one is left", x.octet(8), NONE);
        // The most plays: each of the 249 has brothers, and so brackets of its own.
        StoneRoom most = new StoneRoom();
        most.begin(9, -200);
        int due = "(;SZ[9]KM[-200])".length();
        for (int made = 1; made < 250; made++) {
            most.to(made <= 82 ? 0 : made <= 163 ? 1 : made <= 243 ? 2 : 3);
            int point = made <= 82 ? made - 2 : made <= 163 ? made - 83 : made <= 243 ? made - 163 : made - 242;
            check.due("8: the test's own play " + made, most.play(point), 0);
            due += made == 1 ? "(;B[])".length() : "(;B[aa])".length();
        }
        check.due("8: NODES", most.count(0), 250);
        check.due("8: the most plays", most.write(), due);
        check.due("8: its last byte", most.octet(due - 1), ')');
        check.due("8: behind it", most.octet(due), NONE);
    }

    /** Promise 9: "Byte i of OUT; NONE." */
    private void octet() {
        for (int i : new int[] {MIN, -1, 0, 1, MAX}) {
            check.due("9: octet(" + i + ") without OUT", new StoneRoom().octet(i), NONE);
        }
        StoneRoom x = new StoneRoom();
        String text = "(;SZ[9])";
        x.write();
        for (int i = 0; i < text.length(); i++) {
            check.due("9: octet(" + i + ")", x.octet(i), text.charAt(i));
        }
        for (int i : new int[] {MIN, -2, -1, 8, 9, 1500, 4095, 4096, MAX}) {
            check.due("9: octet(" + i + ")", x.octet(i), NONE);
        }
        x.begin(3, 0);
        check.due("9: OUT stays until write()", x.octet(5), '9');
        x.write();
        check.due("9: OUT anew", x.octet(5), '3');
        check.leaves("9: octet(0)", used, y -> y.octet(0), '(');
        check.leaves("9: octet(99)", used, y -> y.octet(99), NONE);
    }

    /** Promise 10: "STATUS of a PLAY at the PLACE (NONE as point: of a PASS: 0, 5 or 6)" */
    private void let() {
        for (int point : NO_POINTS) {
            if (point != NONE) {
                check.leaves("10: let(" + point + ")", used, x -> x.let(point), 1);
            }
        }
        check.leaves("10: let(0)", used, x -> x.let(0), 0);
        check.leaves("10: let(1)", used, x -> x.let(1), 2);
        check.leaves("10: let a PASS", used, x -> x.let(NONE), 0);
        check.due("10: a PASS where it is OVER", letAt("(;B[];W[])", 1, NONE), 5);
        check.due("10: a PASS of 250 NODES", letAt("(" + ";".repeat(250) + ")", 0, NONE), 6);
        check.due("10: both", letAt("(;B[];W[]" + ";".repeat(248) + ")", 1, NONE), 5);
    }

    private static int letAt(String text, int node, int point) {
        StoneRoom x = Check.roomOf(text);
        x.to(node);
        return x.let(point);
    }

    private static StoneRoom at(String text, int node) {
        StoneRoom x = Check.roomOf(text);
        x.to(node);
        return x;
    }

    /** Promise 11: "STATUS; if that is 0 it is done" */
    private void play() {
        String shape = "(;SZ[5]AB[ba][ab][bc]AW[bb][ca][db][cc];B[cb]";
        int[] points = {25, 7, 0, 6};
        for (int status = 1; status <= 4; status++) {
            int point = points[status - 1];
            check.leaves("11: STATUS " + status, () -> at(shape + ")", 1), x -> x.play(point), status);
        }
        check.leaves("11: play(-2)", () -> at(shape + ")", 1), x -> x.play(-2), 1);
        check.leaves("11: play(MIN)", () -> at(shape + ")", 1), x -> x.play(MIN), 1);
        check.leaves("11: play(MAX)", () -> at(shape + ")", 1), x -> x.play(MAX), 1);
        for (int point = NONE; point <= 24; point += 25) {
            int p = point;
            check.leaves("11: STATUS 5", () -> at(shape + ";W[];B[])", 3), x -> x.play(p), 5);
            String full = shape + "(" + ";".repeat(248) + "))";
            check.leaves("11: STATUS 6", () -> at(full, 1), x -> x.play(p), 6);
        }
        // "the PLACE is the child that is this move already (the least), or a new NODE"
        StoneRoom x = Check.roomOf("(;SZ[3](;W[aa])(;AB[aa])(;B[aa])(;B[])(;B[aa])(;B[]))");
        check.due("11: the least child that is this move", x.play(0), 0);
        check.due("11: the PLACE", x.count(1), 3);
        x.to(0);
        check.due("11: the least PASS", x.play(NONE), 0);
        check.due("11: the PLACE", x.count(1), 4);
        x.to(0);
        check.due("11: no child that is this move", x.play(1), 0);
        check.due("11: a new NODE", x.count(1), 7);
        check.due("11: NODES", x.count(0), 8);
        check.due("11: it is the last child", x.node(0, 5), 7);
        x.to(0);
        check.due("11: there now", x.play(1), 0);
        check.due("11: the PLACE", x.count(1), 7);
        check.due("11: NODES", x.count(0), 8);
        // By the colour whose TURN it is.
        StoneRoom y = Check.roomOf("(;SZ[3]AB[aa](;B[bb])(;W[bb]))");
        check.due("11: WHITE's", y.play(4), 0);
        check.due("11: the PLACE", y.count(1), 2);
    }

    /** Promise 12: "k NODES back (0 and more): how many it went. NONE, doing nothing, below 0." */
    private void back() {
        for (int k : new int[] {MIN, -2, -1}) {
            check.leaves("12: back(" + k + ")", used, x -> x.back(k), NONE);
        }
        check.leaves("12: back(0)", used, x -> x.back(0), 0);
        int[] asked = {0, 1, 2, 3, 4, 250, MAX};
        for (int k : asked) {
            StoneRoom x = at("(;SZ[3];B[aa];W[ba];B[cc])", 3);
            check.due("12: back(" + k + ")", x.back(k), Math.min(k, 3));
            check.due("12: the PLACE", x.count(1), 3 - Math.min(k, 3));
            check.due("12: the BOARD", x.count(7), 3 - Math.min(k, 3));
            check.due("12: NODES stay", x.count(0), 4);
        }
        check.due("12: at the ROOT", new StoneRoom().back(1), 0);
        check.due("12: at the ROOT, far", new StoneRoom().back(MAX), 0);
        StoneRoom y = at("(" + ";".repeat(250) + ")", 249);
        check.due("12: the longest way", y.back(250), 249);
        StoneRoom z = at("(;SZ[3](;B[aa];W[bb])(;B[cc]))", 3);
        check.due("12: by PARENTS, not by numbers", z.back(1), 1);
        check.due("12: the PLACE", z.count(1), 0);
    }

    /** Promise 13: "To the k-th child by numbers: true; false without it." */
    private void on() {
        String text = "(;SZ[3];B[aa](;W[ba];B[cc])(;W[ca])(;W[]))";
        int[] children = {2, 4, 5};
        for (int k = 0; k < children.length; k++) {
            StoneRoom x = at(text, 1);
            check.due("13: on(" + k + ")", x.on(k), true);
            check.due("13: the PLACE", x.count(1), children[k]);
        }
        for (int k : new int[] {MIN, -1, 3, 4, 250, MAX}) {
            check.leaves("13: on(" + k + ")", () -> at(text, 1), x -> Check.bit(x.on(k)), 0);
        }
        for (int k : new int[] {-1, 0, 1}) {
            check.leaves("13: on(" + k + ") at a leaf", () -> at(text, 3), x -> Check.bit(x.on(k)), 0);
        }
        check.leaves("13: on(2) of the used room", used, x -> Check.bit(x.on(2)), 0);
        StoneRoom y = at(text, 1);
        y.play(8);
        y.to(1);
        check.due("13: a child that came last", y.on(3), true);
        check.due("13: the PLACE", y.count(1), 6);
        StoneRoom most = Check.roomOf("(;" + "(;)".repeat(249) + ")");
        check.due("13: the 249th child", most.on(248), true);
        check.due("13: the PLACE", most.count(1), 249);
        most.to(0);
        check.due("13: the 250th", most.on(249), false);
    }

    /** Promise 14: "To a NODE: true; false without it." */
    private void to() {
        String text = "(;SZ[3];B[aa](;W[ba];B[cc])(;W[ca]))";
        int[] stones = {0, 1, 2, 3, 2};
        for (int k = 0; k < stones.length; k++) {
            StoneRoom x = at(text, 2);
            check.due("14: to(" + k + ")", x.to(k), true);
            check.due("14: the PLACE", x.count(1), k);
            check.due("14: the BOARD", x.count(7), stones[k]);
        }
        for (int k : new int[] {MIN, -2, -1, 5, 6, 249, 250, MAX}) {
            check.leaves("14: to(" + k + ")", () -> at(text, 2), x -> Check.bit(x.to(k)), 0);
        }
        for (int k : new int[] {-1, 5, 250}) {
            check.leaves("14: to(" + k + ") of the used room", used, x -> Check.bit(x.to(k)), 0);
        }
        StoneRoom y = Check.roomOf("(" + ";".repeat(250) + ")");
        check.due("14: the 250th NODE", y.to(249), true);
        check.due("14: the 251st", y.to(250), false);
        check.due("14: the PLACE", y.count(1), 249);
    }

    /** Promise 15: "NONE without it, or for another what (2 too)" */
    private void node() {
        StoneRoom x = usedRoom();
        int[][] due = {
            {NONE, 0, NONE, 0, NONE, 1, 0, 1, 0},
            {0, 1, NONE, 1, 3, 2, 1, 2, 1},
            {1, 1, NONE, 2, 8, 1, 2, 1, 0},
            {2, 1, NONE, 1, 4, 0, 3, 2, 0},
            {1, 1, NONE, 2, 4, 0, 2, 1, 0},
        };
        for (int k = 0; k < due.length; k++) {
            for (int what = 0; what <= 8; what++) {
                check.due("15: node(" + k + ", " + what + ")", x.node(k, what), due[k][what]);
            }
            for (int what : new int[] {MIN, -1, 2, 9, 10, MAX}) {
                check.due("15: node(" + k + ", " + what + ")", x.node(k, what), NONE);
            }
        }
        for (int k : new int[] {MIN, -2, -1, 5, 6, 249, 250, MAX}) {
            for (int what = -1; what <= 9; what++) {
                check.due("15: node(" + k + ", " + what + ")", x.node(k, what), NONE);
            }
        }
        StoneRoom y = Check.roomOf("(;W[];;B[](;AE[aa])(;W[ba]))");
        int[][] others = {
            {NONE, 2, NONE, 2, NONE, 1, 0, 1, 0},
            {0, 0, NONE, 0, NONE, 1, 1, 1, 0},
            {1, 2, NONE, 1, NONE, 2, 2, 2, 0},
            {2, 0, NONE, 0, NONE, 0, 3, 2, 0},
            {2, 1, NONE, 2, 1, 0, 3, 1, 0},
        };
        for (int k = 0; k < others.length; k++) {
            for (int what = 0; what <= 8; what++) {
                check.due("15: passes and sets, node(" + k + ", " + what + ")", y.node(k, what), others[k][what]);
            }
        }
        StoneRoom z = Check.roomOf("(" + ";".repeat(250) + ")");
        check.due("15: NODES ahead of the last", z.node(249, 6), 249);
        check.due("15: its PARENT", z.node(249, 0), 248);
        check.due("15: a ROOT with 249 children", Check.roomOf("(;" + "(;)".repeat(249) + ")").node(0, 5), 249);
        check.leaves("15: node(1, 8)", used, w -> w.node(1, 8), 1);
    }

    /** Promise 16: "What is at a POINT at the PLACE: 0, 1, 2; NONE." */
    private void at() {
        StoneRoom x = usedRoom();
        int[] due = {0, 1, 0, 1, 0, 0, 0, 0, 2};
        for (int point = 0; point < due.length; point++) {
            check.due("16: at(" + point + ")", x.at(point), due[point]);
        }
        for (int point : NO_POINTS) {
            check.due("16: at(" + point + ")", x.at(point), NONE);
        }
        x.begin(4, 0);
        check.due("16: a larger board has more", x.at(15), 0);
        check.due("16: and an end", x.at(16), NONE);
    }

    /** Promise 17: "NONE without a stone, or for another what" */
    private void chain() {
        StoneRoom x = usedRoom();
        int[] due = {8, 1, 2, 0, 1};
        for (int what = 0; what < due.length; what++) {
            check.due("17: chain(8, " + what + ")", x.chain(8, what), due[what]);
            check.due("17: chain(0, " + what + ") without a stone", x.chain(0, what), NONE);
            for (int point : NO_POINTS) {
                check.due("17: chain(" + point + ", " + what + ")", x.chain(point, what), NONE);
            }
        }
        for (int what : new int[] {MIN, -1, 5, 6, MAX}) {
            check.due("17: chain(8, " + what + ")", x.chain(8, what), NONE);
            check.due("17: chain(0, " + what + ")", x.chain(0, what), NONE);
        }
        check.due("17: not DEAD", x.chain(1, 4), 0);
        for (int what = 0; what <= 5; what++) {
            int w = what;
            check.leaves("17: chain(8, " + what + ")", used, y -> y.chain(8, w), what < 5 ? due[what] : NONE);
        }
    }

    /** Promise 18: "The i-th LIBERTY (by numbers) of the CHAIN of a stone; NONE." */
    private void liberty() {
        StoneRoom x = usedRoom();
        check.due("18: the first", x.liberty(8, 0), 5);
        check.due("18: the second", x.liberty(8, 1), 7);
        for (int i : new int[] {MIN, -2, -1, 2, 3, 81, MAX}) {
            check.due("18: liberty(8, " + i + ")", x.liberty(8, i), NONE);
        }
        check.due("18: without a stone", x.liberty(0, 0), NONE);
        for (int point : NO_POINTS) {
            check.due("18: liberty(" + point + ", 0)", x.liberty(point, 0), NONE);
        }
        // The most: a comb that touches all the rest of the board, and the least.
        StoneRoom y = Check.roomOf(Check.drawn("...", "XXX", "..."));
        int[] most = {0, 1, 2, 6, 7, 8};
        for (int i = 0; i < most.length; i++) {
            check.due("18: liberty(4, " + i + ")", y.liberty(4, i), most[i]);
        }
        check.due("18: one more", y.liberty(4, 6), NONE);
        StoneRoom z = Check.roomOf(Check.drawn("XXX", "XXX", "XX."));
        check.due("18: the only one", z.liberty(0, 0), 8);
        check.due("18: no second", z.liberty(0, 1), NONE);
        check.leaves("18: liberty(8, 1)", used, w -> w.liberty(8, 1), 7);
    }

    /** Promise 19: "NONE: no such colour or POINT, it has a stone of that colour, or another what." */
    private void region() {
        StoneRoom x = usedRoom();
        int[] due = {2, 6, 5, 0};
        for (int what = 0; what < due.length; what++) {
            check.due("19: region(1, 8, " + what + ")", x.region(1, 8, what), due[what]);
            check.due("19: a stone of that colour", x.region(1, 1, what), NONE);
            check.due("19: a stone of that colour", x.region(2, 8, what), NONE);
            for (int colour : new int[] {MIN, -1, 0, 3, MAX}) {
                check.due("19: region(" + colour + ", 2, " + what + ")", x.region(colour, 2, what), NONE);
            }
            for (int point : NO_POINTS) {
                check.due("19: region(1, " + point + ", " + what + ")", x.region(1, point, what), NONE);
            }
        }
        for (int what : new int[] {MIN, -1, 4, 5, MAX}) {
            check.due("19: region(1, 2, " + what + ")", x.region(1, 2, what), NONE);
        }
        check.leaves("19: region(1, 2, 1)", used, y -> y.region(1, 2, 1), 6);
        check.leaves("19: region(2, 8, 1)", used, y -> y.region(2, 8, 1), NONE);
    }

    /** Promise 20: "NONE without a stone, or if it has three LIBERTIES or more" */
    private void ladder() {
        for (int point : NO_POINTS) {
            check.leaves("20: ladder(" + point + ")", used, x -> x.ladder(point), NONE);
        }
        check.leaves("20: an empty POINT", used, x -> x.ladder(0), NONE);
        check.leaves("20: three LIBERTIES", used, x -> x.ladder(3), NONE);
        // The used room has asked for this one already.
        check.leaves("20: two LIBERTIES", used, x -> x.ladder(8), 1);
        check.due("20: one LIBERTY", Check.roomOf(Check.drawn("XO.", "...", "...")).ladder(0), 1);
    }

    /** Promise 21: "Of the latest ladder() that was not NONE ... NONE ahead of any." */
    private void steps() {
        StoneRoom x = Check.roomOf(Check.drawn("XO.", "...", "..O"));
        for (int what = -1; what <= 2; what++) {
            check.due("21: ahead of any", x.steps(what), NONE);
        }
        check.due("21: NONE", x.ladder(4), NONE);
        check.due("21: still ahead of any", x.steps(0), NONE);
        x.ladder(0);
        check.due("21: STEPS", x.steps(0), 1);
        check.due("21: the first PLAY that takes", x.steps(1), 3);
        for (int what : new int[] {MIN, -1, 2, 3, MAX}) {
            check.due("21: another what", x.steps(what), NONE);
        }
        check.due("21: a ladder() that is NONE", x.ladder(4), NONE);
        check.due("21: another", x.ladder(MAX), NONE);
        check.due("21: STEPS stay", x.steps(0), 1);
        check.due("21: the PLAY stays", x.steps(1), 3);
        x.begin(5, 0);
        x.play(0);
        x.back(1);
        Check.read(x, "(;SZ[5]AB[cc]AW[bc][cb])");
        check.due("21: they are the latest's still", x.steps(0) * 10 + x.steps(1), 13);
        check.due("21: one that is not taken", x.ladder(12), 0);
        check.due("21: STEPS", x.steps(0), 4);
        check.due("21: NONE if it is not 1", x.steps(1), NONE);
        check.leaves("21: steps(0)", used, y -> y.steps(0) > 0 ? 1 : 0, 1);
    }

    /** Promise 22: "how many stones; NONE without a stone" */
    private void dead() {
        for (int k = 0; k <= 1; k++) {
            boolean is = k == 1;
            for (int point : NO_POINTS) {
                check.leaves("22: dead(" + point + ", " + is + ")", used, x -> x.dead(point, is), NONE);
            }
            check.leaves("22: an empty POINT, " + is, used, x -> x.dead(0, is), NONE);
        }
        check.leaves("22: DEAD already", used, x -> x.dead(8, true), 1);
        check.leaves("22: not DEAD anyway", used, x -> x.dead(1, false), 1);
        StoneRoom x = usedRoom();
        check.due("22: no more", x.dead(8, false), 1);
        check.due("22: it is not", x.chain(8, 4), 0);
        StoneRoom y = Check.roomOf(Check.drawn("XXX", "XXX", "XX."));
        check.due("22: the largest", y.dead(7, true), 8);
        check.due("22: all of it", y.score(1, 3), 8);
    }

    /** Promise 23: "NONE for another what or colour. (Without KOMI.)" */
    private void score() {
        StoneRoom x = usedRoom();
        // White's stone at 8 is DEAD, one was TAKEN.
        int[][] due = {{9, 7 + 1 + 1, 1, 0}, {0, 0, 0, 1}};
        for (int what = 0; what < 4; what++) {
            for (int colour = 1; colour <= 2; colour++) {
                check.due("23: score(" + colour + ", " + what + ")", x.score(colour, what), due[colour - 1][what]);
            }
            for (int colour : new int[] {MIN, -1, 0, 3, 4, MAX}) {
                check.due("23: score(" + colour + ", " + what + ")", x.score(colour, what), NONE);
            }
        }
        for (int what : new int[] {MIN, -1, 4, 5, MAX}) {
            check.due("23: score(1, " + what + ")", x.score(1, what), NONE);
            check.due("23: score(2, " + what + ")", x.score(2, what), NONE);
        }
        for (int what = 0; what <= 4; what++) {
            int w = what;
            check.leaves("23: score(1, " + what + ")", used, y -> y.score(1, w), what < 4 ? due[0][what] : NONE);
        }
    }

    /** Promise 24: "half points of BLACK less those of WHITE. 0 for another what." */
    private void ahead() {
        StoneRoom x = usedRoom();
        check.due("24: by AREA", x.ahead(0), 18 + 7);
        check.due("24: by TERRITORY", x.ahead(1), 18 + 7);
        for (int what : new int[] {MIN, -1, 2, 3, MAX}) {
            check.due("24: ahead(" + what + ")", x.ahead(what), 0);
        }
        // The most and the least.
        StoneRoom y = begun(9, -200);
        y.play(40);
        check.due("24: all is BLACK's, and KOMI too", y.ahead(0), 162 + 200);
        StoneRoom z = Check.roomOf("(;KM[200]AW[aa])");
        check.due("24: all is WHITE's, and KOMI too", z.ahead(0), -162 - 200);
        check.due("24: even", begun(3, 0).ahead(0), 0);
        check.leaves("24: ahead(1)", used, w -> w.ahead(1), 25);
    }

    /** Promise 25: "false, and nothing happens, if one is below 0, above 100000, or PERIODS above 0 have 0 seconds" */
    private void clocks() {
        int[][] wrong = {{-1, 0, 0}, {0, -1, 0}, {0, 0, -1}, {100001, 1, 1}, {1, 100001, 1}, {1, 1, 100001}, {1, 1, 0},
            {0, 100000, 0}, {MIN, 1, 1}, {MAX, 1, 1}, {1, MIN, 1}, {1, MAX, 1}, {1, 1, MIN}, {1, 1, MAX}, {0, -1, 5}};
        for (int[] w : wrong) {
            String call = "25: clocks(" + w[0] + ", " + w[1] + ", " + w[2] + ")";
            check.leaves(call, used, x -> Check.bit(x.clocks(w[0], w[1], w[2])), 0);
        }
        int[][] right = {{0, 0, 0}, {0, 0, 1}, {0, 1, 1}, {100000, 0, 0}, {0, 100000, 1}, {0, 1, 100000}, {1, 0, 100000},
            {100000, 100000, 100000}};
        for (int[] r : right) {
            StoneRoom x = usedRoom();
            check.due("25: clocks(" + r[0] + ", " + r[1] + ", " + r[2] + ")", x.clocks(r[0], r[1], r[2]), true);
            for (int colour = 1; colour <= 2; colour++) {
                check.due("25: MAIN", x.time(colour, 0), r[0]);
                check.due("25: PERIODS", x.time(colour, 1), r[1]);
                check.due("25: not LOST", x.time(colour, 2), 0);
            }
        }
    }

    /** Promise 26: "NONE, and nothing happens: no such colour, t below 0 or above 100000, one has LOST" */
    private void clock() {
        for (int colour : new int[] {MIN, -1, 0, 3, 4, MAX}) {
            check.leaves("26: clock(" + colour + ", 1)", used, x -> x.clock(colour, 1), NONE);
        }
        for (int t : new int[] {MIN, -2, -1, 100001, 100002, MAX}) {
            check.leaves("26: clock(1, " + t + ")", used, x -> x.clock(1, t), NONE);
            check.leaves("26: clock(2, " + t + ")", used, x -> x.clock(2, t), NONE);
        }
        check.leaves("26: clock(1, 0)", used, x -> x.clock(1, 0), 0);
        check.due("26: 100000", usedRoom().clock(1, 100000), 1);
        for (int loser = 1; loser <= 2; loser++) {
            int who = loser;
            Supplier<StoneRoom> lost = () -> {
                StoneRoom x = usedRoom();
                x.clock(who, 100000);
                return x;
            };
            for (int t : new int[] {0, 1, 100000}) {
                check.leaves("26: the loser " + loser + ", " + t, lost, x -> x.clock(who, t), NONE);
                check.leaves("26: the other of " + loser + ", " + t, lost, x -> x.clock(3 - who, t), NONE);
            }
        }
    }

    /** Promise 27: "what 0: MAIN, 1: PERIODS, 2: 1 if it has LOST. NONE for others." */
    private void time() {
        StoneRoom x = usedRoom();
        int[][] due = {{13, 3, 0}, {0, 2, 0}};
        for (int what = 0; what <= 2; what++) {
            check.due("27: time(1, " + what + ")", x.time(1, what), due[0][what]);
            check.due("27: time(2, " + what + ")", x.time(2, what), due[1][what]);
            for (int colour : new int[] {MIN, -1, 0, 3, MAX}) {
                check.due("27: time(" + colour + ", " + what + ")", x.time(colour, what), NONE);
            }
        }
        for (int what : new int[] {MIN, -1, 3, 4, MAX}) {
            check.due("27: time(1, " + what + ")", x.time(1, what), NONE);
            check.due("27: time(2, " + what + ")", x.time(2, what), NONE);
        }
        x.clock(2, 10);
        check.due("27: LOST", x.time(2, 2), 1);
        check.due("27: the other not", x.time(1, 2), 0);
    }

    /** Promise 28: "NONE for another what" */
    private void count() {
        StoneRoom x = usedRoom();
        int[] due = {5, 2, 3, -7, 1, 0, 3, 3, 13, 2};
        for (int what = 0; what < due.length; what++) {
            int w = what;
            check.due("28: count(" + what + ")", x.count(what), due[what]);
            check.leaves("28: count(" + what + ")", used, y -> y.count(w), due[what]);
        }
        for (int what : new int[] {MIN, -2, -1, 10, 11, MAX}) {
            check.due("28: count(" + what + ")", x.count(what), NONE);
        }
        // The full board, and the empty one.
        StoneRoom most = Check.roomOf(Check.drawn("XXX", "XXX", "XX."));
        check.due("28: stones", most.count(7), 8);
        check.due("28: one CHAIN", most.count(6), 1);
        check.due("28: an empty BOARD", begun(3, 0).count(6) + begun(3, 0).count(7), 0);
        check.due("28: KOMI -1 is no NONE", begun(3, -1).count(3), -1);
    }

    /** "An object is used for at most 512 calls after it has been made": the last of them is answered as any. */
    private void the512thCall() {
        StoneRoom x = new StoneRoom();
        for (int i = 0; i < 255; i++) {
            check.due("512: play", x.play(i % 81), 0);
            check.due("512: back", x.back(1), 1);
        }
        check.due("512: the 511th call", x.count(0), 82);
        check.due("512: the 512th call", x.play(80), 0);
    }
}
