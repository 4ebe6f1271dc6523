/** Promises 25 to 27: clocks with periods. */
public final class ClockTest {
    private static final int NONE = StoneRoom.NONE;

    private final Check check = new Check();

    public static void main(String[] args) {
        ClockTest test = new ClockTest();
        test.winds();
        test.runsMain();
        test.runsPeriods();
        test.runsOut();
        test.tells();
        test.check.close("ClockTest");
    }

    private void clock(StoneRoom x, int colour, int t, int answer, int main, int periods) {
        check.due("26: clock(" + colour + ", " + t + ")", x.clock(colour, t), answer);
        check.due("27: MAIN behind " + t, x.time(colour, 0), main);
        check.due("27: PERIODS behind " + t, x.time(colour, 1), periods);
        check.due("27: LOST behind " + t, x.time(colour, 2), answer == 1 ? 1 : 0);
    }

    private void winds() {
        StoneRoom x = new StoneRoom();
        check.due("25: clocks(10, 2, 5)", x.clocks(10, 2, 5), true);
        int[][] wrong = {{-1, 2, 5}, {10, -1, 5}, {10, 2, -1}, {100001, 2, 5}, {10, 100001, 5}, {10, 2, 100001},
            {10, 1, 0}, {Integer.MIN_VALUE, 0, 0}, {0, Integer.MAX_VALUE, 1}};
        for (int[] w : wrong) {
            check.due("25: clocks(" + w[0] + ", " + w[1] + ", " + w[2] + ")", x.clocks(w[0], w[1], w[2]), false);
            check.due("25: nothing happens", x.time(1, 0) * 10 + x.time(2, 1), 102);
        }
        check.due("25: the most", x.clocks(100000, 100000, 100000), true);
        check.due("25: no periods of no seconds", x.clocks(0, 0, 0), true);
        check.due("25: no periods of some seconds", x.clocks(3, 0, 9), true);
        clock(x, 1, 4, 1, 0, 0);
        check.due("25: anew", x.clocks(5, 1, 1), true);
        check.due("27: not LOST any more", x.time(1, 2), 0);
        clock(x, 1, 5, 0, 0, 1);
    }

    private void runsMain() {
        StoneRoom x = new StoneRoom();
        x.clocks(10, 0, 0);
        clock(x, 1, 4, 0, 6, 0);
        clock(x, 1, 0, 0, 6, 0);
        clock(x, 2, 10, 0, 0, 0);
        clock(x, 2, 0, 0, 0, 0);
        clock(x, 1, 6, 0, 0, 0);
        clock(x, 1, 1, 1, 0, 0);
        check.due("26: one has LOST", x.clock(1, 0), NONE);
        check.due("26: the other is clocked no more", x.clock(2, 0), NONE);
        check.due("27: the other has not LOST", x.time(2, 2), 0);
    }

    private void runsPeriods() {
        StoneRoom x = new StoneRoom();
        x.clocks(10, 3, 5);
        clock(x, 1, 14, 0, 0, 3);
        clock(x, 1, 4, 0, 0, 3);
        clock(x, 1, 5, 0, 0, 2);
        clock(x, 1, 9, 0, 0, 1);
        clock(x, 2, 15, 0, 0, 2);
        clock(x, 2, 10, 1, 0, 0);
        check.due("26: nothing happens any more", x.clock(1, 5), NONE);
        check.due("27: PERIODS of the other", x.time(1, 1), 1);
    }

    private void runsOut() {
        StoneRoom x = new StoneRoom();
        check.due("26: MAIN 0, no time", x.clock(1, 0), 0);
        check.due("26: MAIN 0, a second", x.clock(1, 1), 1);
        StoneRoom y = new StoneRoom();
        y.clocks(0, 100000, 1);
        clock(y, 1, 99999, 0, 0, 1);
        clock(y, 1, 100000, 1, 0, 0);
        StoneRoom z = new StoneRoom();
        z.clocks(0, 2, 100000);
        clock(z, 2, 100000, 0, 0, 1);
        clock(z, 2, 99999, 0, 0, 1);
    }

    private void tells() {
        StoneRoom x = new StoneRoom();
        x.clocks(10, 3, 5);
        check.due("26: no such colour", x.clock(0, 5), NONE);
        check.due("26: no such colour", x.clock(3, 5), NONE);
        check.due("26: below 0", x.clock(1, -1), NONE);
        check.due("26: above 100000", x.clock(1, 100001), NONE);
        check.due("26: max", x.clock(1, Integer.MAX_VALUE), NONE);
        check.due("27: nothing happened", x.time(1, 0), 10);
        check.due("27: colour 0", x.time(0, 0), NONE);
        check.due("27: colour 3", x.time(3, 0), NONE);
        check.due("27: what 3", x.time(1, 3), NONE);
        check.due("27: what -1", x.time(1, -1), NONE);
    }
}
