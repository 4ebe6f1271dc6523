/**
 * All that later calls show of a room, as one text, so that two rooms can be told apart. Small rooms are shown within
 * the 512 calls that an object is promised for; of a game with many nodes the first and the last are shown.
 */
final class Shown {
    private static final int FIRST_NODES = 6;

    private final StoneRoom room;
    private final StringBuilder text = new StringBuilder();

    private Shown(StoneRoom room) {
        this.room = room;
    }

    /** The whole room, which is used up by it: its tape is read, its clocks run down. */
    static String all(StoneRoom room) {
        Shown shown = new Shown(room);
        shown.tellGame();
        shown.tellKept();
        shown.tellOut("OUT");
        shown.tell("written", room.write());
        shown.tellOut("OUT anew");
        shown.runClocks();
        shown.tell("read", room.read());
        shown.tell("at", room.place());
        shown.tell("nodes then", room.count(0));
        return shown.text.toString();
    }

    /** The game alone, with what is dead in it; nothing is changed by it. */
    static String game(StoneRoom room) {
        Shown shown = new Shown(room);
        shown.tellGame();
        return shown.text.toString();
    }

    private void tell(String what, int answer) {
        text.append(what).append(' ').append(answer).append(", ");
    }

    private void tellGame() {
        for (int what = 0; what <= 7; what++) {
            tell("count " + what, room.count(what));
        }
        int nodes = room.count(0);
        for (int k = 0; k < nodes; k++) {
            if (k < FIRST_NODES || k == nodes - 1) {
                tellNode(k);
            }
        }
        int points = room.count(2) * room.count(2);
        for (int p = 0; p < points; p++) {
            tell("at " + p, room.at(p));
            tell("let", room.let(p));
            tell("dead", room.at(p) > 0 ? room.chain(p, 4) : 0);
        }
        tell("let a pass", room.let(StoneRoom.NONE));
        tell("area", room.ahead(0));
        tell("territory", room.ahead(1));
    }

    private void tellNode(int k) {
        for (int what = 0; what <= 8; what++) {
            tell("node " + k + " " + what, room.node(k, what));
        }
    }

    private void tellKept() {
        tell("tape", room.count(8));
        tell("KO", room.count(9));
        tell("fault at", room.place());
        tell("steps", room.steps(0));
        tell("taker", room.steps(1));
    }

    private void tellOut(String name) {
        text.append(name).append(' ');
        for (int i = 0; i < 4096 && room.octet(i) != StoneRoom.NONE; i++) {
            text.append((char) room.octet(i));
        }
        text.append(", ");
    }

    private void runClocks() {
        for (int colour = 1; colour <= 2; colour++) {
            tellClock(colour);
            tell("clock to the end of MAIN", room.clock(colour, room.time(colour, 0)));
            tell("clock 4", room.clock(colour, 4));
            tell("clock 5", room.clock(colour, 5));
            tellClock(colour);
        }
    }

    private void tellClock(int colour) {
        for (int what = 0; what <= 2; what++) {
            tell("time " + colour + " " + what, room.time(colour, what));
        }
    }
}
