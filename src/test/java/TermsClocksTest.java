/** The document's Terms VI, sentence by sentence: main time, periods, what is lost. */
public final class TermsClocksTest {
    private static final int NONE = StoneRoom.NONE;

    private final Check check = new Check();

    public static void main(String[] args) {
        TermsClocksTest test = new TermsClocksTest();
        test.aNewObjectHasNoTime();
        test.mainIsLessByThat();
        test.withoutPeriodsMainIsAll();
        test.whatIsMoreIsOfPeriods();
        test.aPeriodIsWholeAgain();
        test.aPeriodIsUsedUpAtItsLastSecond();
        test.severalPeriodsInOneMove();
        test.whenNoneIsLeftItIsLost();
        test.nothingIsClockedAnyMore();
        test.bothColoursHaveTheirOwn();
        test.theMostSeconds();
        test.againstASecondTelling();
        test.movesAreClockedByHand();
        test.check.close("TermsClocksTest");
    }

    private static StoneRoom wound(int main, int periods, int seconds) {
        StoneRoom x = new StoneRoom();
        x.clocks(main, periods, seconds);
        return x;
    }

    private void clock(StoneRoom x, int colour, int t, int answer, int main, int periods) {
        check.due("VI: clock(" + colour + ", " + t + ")", x.clock(colour, t), answer);
        check.due("VI: MAIN behind " + t, x.time(colour, 0), main);
        check.due("VI: PERIODS behind " + t, x.time(colour, 1), periods);
        check.due("VI: LOST behind " + t, x.time(colour, 2), answer == 1 ? 1 : 0);
    }

    private void aNewObjectHasNoTime() {
        StoneRoom x = new StoneRoom();
        clock(x, 1, 0, 0, 0, 0);
        clock(x, 2, 0, 0, 0, 0);
        clock(x, 2, 1, 1, 0, 0);
    }

    /** "as far as MAIN lasts it is less by that" */
    private void mainIsLessByThat() {
        StoneRoom x = wound(10, 1, 5);
        clock(x, 1, 0, 0, 10, 1);
        clock(x, 1, 1, 0, 9, 1);
        clock(x, 1, 8, 0, 1, 1);
        clock(x, 1, 1, 0, 0, 1);
        clock(x, 1, 0, 0, 0, 1);
    }

    /** "(Without PERIODS: as there are seconds more than MAIN.)" */
    private void withoutPeriodsMainIsAll() {
        for (int seconds = 0; seconds <= 5; seconds += 5) {
            clock(wound(10, 0, seconds), 1, 10, 0, 0, 0);
            clock(wound(10, 0, seconds), 1, 11, 1, 0, 0);
            clock(wound(0, 0, seconds), 2, 0, 0, 0, 0);
            clock(wound(0, 0, seconds), 2, 1, 1, 0, 0);
            StoneRoom x = wound(10, 0, seconds);
            clock(x, 2, 10, 0, 0, 0);
            clock(x, 2, 0, 0, 0, 0);
            clock(x, 2, 1, 1, 0, 0);
        }
    }

    /** "what is more than MAIN is of PERIODS" */
    private void whatIsMoreIsOfPeriods() {
        clock(wound(10, 3, 5), 1, 10, 0, 0, 3);
        clock(wound(10, 3, 5), 1, 11, 0, 0, 3);
        clock(wound(10, 3, 5), 1, 14, 0, 0, 3);
        clock(wound(10, 3, 5), 1, 15, 0, 0, 2);
        clock(wound(10, 3, 5), 1, 19, 0, 0, 2);
        clock(wound(10, 3, 5), 1, 20, 0, 0, 1);
        clock(wound(10, 3, 5), 1, 24, 0, 0, 1);
        clock(wound(10, 3, 5), 1, 25, 1, 0, 0);
    }

    /** "one that is not is whole again" */
    private void aPeriodIsWholeAgain() {
        StoneRoom x = wound(0, 1, 5);
        for (int i = 0; i < 20; i++) {
            clock(x, 1, 4, 0, 0, 1);
        }
        clock(x, 1, 5, 1, 0, 0);
        StoneRoom y = wound(3, 2, 5);
        clock(y, 1, 7, 0, 0, 2);
        clock(y, 1, 9, 0, 0, 1);
        clock(y, 1, 4, 0, 0, 1);
    }

    /** "(what is left of t not below its seconds)" */
    private void aPeriodIsUsedUpAtItsLastSecond() {
        for (int seconds : new int[] {1, 2, 30, 50000, 100000}) {
            clock(wound(0, 2, seconds), 1, seconds - 1, 0, 0, 2);
            clock(wound(0, 2, seconds), 1, seconds, 0, 0, 1);
            if (seconds < 100000) {
                clock(wound(0, 3, seconds), 1, seconds + 1, 0, 0, seconds == 1 ? 1 : 2);
            }
        }
    }

    private void severalPeriodsInOneMove() {
        clock(wound(0, 5, 3), 2, 2, 0, 0, 5);
        clock(wound(0, 5, 3), 2, 6, 0, 0, 3);
        clock(wound(0, 5, 3), 2, 14, 0, 0, 1);
        clock(wound(0, 5, 3), 2, 15, 1, 0, 0);
        clock(wound(0, 5, 3), 2, 16, 1, 0, 0);
        clock(wound(0, 5, 3), 2, 100000, 1, 0, 0);
    }

    /** "When none is left the colour has LOST by time" */
    private void whenNoneIsLeftItIsLost() {
        StoneRoom x = wound(1, 1, 1);
        clock(x, 1, 1, 0, 0, 1);
        clock(x, 1, 0, 0, 0, 1);
        clock(x, 1, 1, 1, 0, 0);
        check.due("VI: the other has not", x.time(2, 2), 0);
        check.due("VI: the other's MAIN", x.time(2, 0), 1);
    }

    /** "nothing is clocked any more", of both, until clocks() */
    private void nothingIsClockedAnyMore() {
        for (int loser = 1; loser <= 2; loser++) {
            StoneRoom x = wound(5, 2, 5);
            clock(x, 3 - loser, 2, 0, 3, 2);
            clock(x, loser, 15, 1, 0, 0);
            check.due("VI: the loser", x.clock(loser, 0), NONE);
            check.due("VI: the other", x.clock(3 - loser, 2), NONE);
            check.due("VI: the other's MAIN", x.time(3 - loser, 0), 3);
            check.due("VI: the other's PERIODS", x.time(3 - loser, 1), 2);
            check.due("VI: the other has not LOST", x.time(3 - loser, 2), 0);
            check.due("VI: the loser has", x.time(loser, 2), 1);
            check.due("VI: clocks that are refused leave it so", x.clocks(5, 2, 0), false);
            check.due("VI: the loser has still", x.time(loser, 2), 1);
            check.due("VI: nothing is clocked still", x.clock(3 - loser, 0), NONE);
            check.due("VI: clocks anew", x.clocks(4, 1, 2), true);
            check.due("VI: nobody has LOST", x.time(1, 2) + x.time(2, 2), 0);
            clock(x, loser, 3, 0, 1, 1);
            clock(x, 3 - loser, 6, 1, 0, 0);
        }
    }

    /** "CLOCKS of both colours" */
    private void bothColoursHaveTheirOwn() {
        StoneRoom x = wound(10, 3, 5);
        clock(x, 1, 4, 0, 6, 3);
        clock(x, 2, 16, 0, 0, 2);
        check.due("VI: black's MAIN", x.time(1, 0), 6);
        check.due("VI: black's PERIODS", x.time(1, 1), 3);
        clock(x, 1, 12, 0, 0, 2);
        check.due("VI: white's PERIODS", x.time(2, 1), 2);
    }

    private void theMostSeconds() {
        clock(wound(100000, 100000, 100000), 1, 100000, 0, 0, 100000);
        StoneRoom x = wound(100000, 1, 100000);
        clock(x, 1, 99999, 0, 1, 1);
        clock(x, 1, 100000, 0, 0, 1);
        clock(x, 1, 100000, 1, 0, 0);
        clock(wound(0, 100000, 1), 1, 100000, 1, 0, 0);
        clock(wound(0, 100000, 1), 1, 99999, 0, 0, 1);
        clock(wound(1, 100000, 1), 1, 100000, 0, 0, 1);
    }

    /** All small clocks, second by second. */
    private void againstASecondTelling() {
        for (int main = 0; main <= 3; main++) {
            for (int periods = 0; periods <= 3; periods++) {
                for (int seconds = 1; seconds <= 3; seconds++) {
                    for (int t = 0; t <= 13; t++) {
                        tellBySeconds(main, periods, seconds, t);
                    }
                }
            }
        }
    }

    private void tellBySeconds(int main, int periods, int seconds, int t) {
        int mainLeft = main;
        int periodsLeft = periods;
        int used = 0;
        boolean lost = false;
        for (int second = 0; second < t && !lost; second++) {
            if (mainLeft > 0) {
                mainLeft--;
            } else if (periodsLeft == 0) {
                lost = true;
            } else {
                used++;
                if (used == seconds) {
                    used = 0;
                    periodsLeft--;
                    lost = periodsLeft == 0;
                }
            }
        }
        clock(wound(main, periods, seconds), 1 + t % 2, t, lost ? 1 : 0, mainLeft, periodsLeft);
    }

    /** "Moves are clocked by hand." No move, and no game, does it. */
    private void movesAreClockedByHand() {
        StoneRoom x = wound(10, 2, 5);
        clock(x, 1, 3, 0, 7, 2);
        x.play(0);
        x.play(NONE);
        x.back(1);
        x.begin(5, 0);
        Check.read(x, "(;B[aa])");
        check.due("VI: black's MAIN", x.time(1, 0), 7);
        check.due("VI: white's MAIN", x.time(2, 0), 10);
        clock(x, 2, 100, 1, 0, 0);
        check.due("VI: who has LOST may be played on", x.play(1), 0);
        check.due("VI: the game is not OVER by it", x.count(5), 0);
        x.begin(5, 0);
        check.due("VI: a new game leaves it LOST", x.time(2, 2), 1);
    }
}
