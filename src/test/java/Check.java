import java.util.function.Supplier;
import java.util.function.ToIntFunction;

/** What the tests share: the count of checks, and the way from texts to the tape and back. */
final class Check {
    private int asked = 0;
    private int wrong = 0;

    void due(String call, long got, long want) {
        asked++;
        if (got != want) {
            wrong++;
            System.out.println(call + " answered " + got + ", due is " + want);
        }
    }

    void due(String call, boolean got, boolean want) {
        due(call, got ? 1 : 0, want ? 1 : 0);
    }

    void due(String call, String got, String want) {
        due(call + " (" + got + ", due is " + want + ")", got.equals(want) ? 1 : 0, 1);
    }

    /** A call that is refused, or that only asks: its answer, and that no later call shows that it was made. */
    void leaves(String call, Supplier<StoneRoom> make, ToIntFunction<StoneRoom> made, int want) {
        StoneRoom with = make.get();
        due(call, made.applyAsInt(with), want);
        due(call + " changes nothing", Shown.all(with), Shown.all(make.get()));
    }

    static int bit(boolean answer) {
        return answer ? 1 : 0;
    }

    void close(String name) {
        System.out.println(name + ": " + asked + " asked, " + wrong + " wrong");
        if (wrong != 0) {
            System.exit(1);
        }
    }

    /** Lays a text on the tape, whose end it cuts to the text's own. */
    static void lay(StoneRoom room, String text) {
        int before = room.count(8);
        for (int from = 0; from < text.length(); from += 20) {
            room.feed(word(text, from), word(text, from + 4), word(text, from + 8), word(text, from + 12),
                word(text, from + 16));
        }
        room.end(Math.min(1500, before + text.length()));
    }

    static int word(String text, int from) {
        int word = 0;
        for (int i = from; i < from + 4; i++) {
            word = word << 8 | (i < text.length() ? text.charAt(i) & 255 : ' ');
        }
        return word;
    }

    static int read(StoneRoom room, String text) {
        lay(room, text);
        return room.read();
    }

    static StoneRoom roomOf(String text) {
        StoneRoom room = new StoneRoom();
        int fault = read(room, text);
        if (fault != 0) {
            System.out.println("the test's own text has fault " + fault + " at " + room.place() + ": " + text);
            System.exit(1);
        }
        return room;
    }

    static String written(StoneRoom room) {
        int length = room.write();
        StringBuilder text = new StringBuilder();
        for (int i = 0; i < length; i++) {
            text.append((char) room.octet(i));
        }
        return text.toString();
    }

    /** A point as a value of a text. */
    static String value(int size, int point) {
        return "[" + (char) ('a' + point % size) + (char) ('a' + point / size) + "]";
    }

    /** A root text of rows drawn with X for black and O for white. */
    static String drawn(String... rows) {
        StringBuilder black = new StringBuilder();
        StringBuilder white = new StringBuilder();
        for (int row = 0; row < rows.length; row++) {
            for (int column = 0; column < rows[row].length(); column++) {
                String point = value(rows.length, row * rows.length + column);
                if (rows[row].charAt(column) == 'X') {
                    black.append(point);
                } else if (rows[row].charAt(column) == 'O') {
                    white.append(point);
                }
            }
        }
        return "(;SZ[" + rows.length + "]" + (black.length() > 0 ? "AB" + black : "")
            + (white.length() > 0 ? "AW" + white : "") + ")";
    }
}
