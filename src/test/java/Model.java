import java.util.ArrayList;
import java.util.List;
import java.util.TreeMap;
import java.util.TreeSet;

/**
 * The document told a second time, in the plainest way and without thrift, for ModelTest to hold StoneRoom against:
 * boards are texts, parts are sets, texts are read and ladders are read out by recursion.
 */
final class Model {
    static final int NONE = -1;

    static final class Node {
        int number;
        Node parent;
        int kind;
        int colour;
        int point = NONE;
        int turn = 1;
        int took;
        String board;
        TreeMap<Integer, Integer> sets = new TreeMap<>();
        List<Node> children = new ArrayList<>();

        int depth() {
            return parent == null ? 0 : parent.depth() + 1;
        }
    }

    static final class Fault extends RuntimeException {
        final int which;
        final int where;

        Fault(int which, int where) {
            this.which = which;
            this.where = where;
        }
    }

    static final class Untold extends RuntimeException {
    }

    int size = 9;
    int komi = 0;
    int rule = 1;
    List<Node> nodes = new ArrayList<>();
    Node place;
    String tape = "";
    String out = "";
    int faultAt = NONE;
    TreeSet<Integer> dead = new TreeSet<>();
    int ladderSteps = NONE;
    int ladderFirst = NONE;
    int[] main = new int[3];
    int[] periods = new int[3];
    boolean[] lost = new boolean[3];
    int seconds = 0;

    Model() {
        begin(9, 0);
    }

    // ---- boards

    static String blank(int n) {
        return "0".repeat(n * n);
    }

    static List<Integer> around(int n, int p) {
        List<Integer> list = new ArrayList<>();
        int r = p / n;
        int c = p % n;
        if (r > 0) list.add(p - n);
        if (r < n - 1) list.add(p + n);
        if (c > 0) list.add(p - 1);
        if (c < n - 1) list.add(p + 1);
        return list;
    }

    static TreeSet<Integer> part(String board, int n, int p, String over) {
        TreeSet<Integer> found = new TreeSet<>();
        spread(board, n, p, over, found);
        return found;
    }

    static void spread(String board, int n, int p, String over, TreeSet<Integer> found) {
        if (over.indexOf(board.charAt(p)) < 0 || !found.add(p)) return;
        for (int q : around(n, p)) spread(board, n, q, over, found);
    }

    static TreeSet<Integer> chainAt(String board, int n, int p) {
        return part(board, n, p, "" + board.charAt(p));
    }

    static TreeSet<Integer> rim(String board, int n, TreeSet<Integer> part, char what) {
        TreeSet<Integer> found = new TreeSet<>();
        for (int p : part) for (int q : around(n, p)) if (board.charAt(q) == what && !part.contains(q)) found.add(q);
        return found;
    }

    static TreeSet<Integer> liberties(String board, int n, int p) {
        return rim(board, n, chainAt(board, n, p), '0');
    }

    static String with(String board, int p, int what) {
        return board.substring(0, p) + what + board.substring(p + 1);
    }

    /** The board behind a play, or null for suicide. */
    static String played(String board, int n, int p, int colour) {
        String now = with(board, p, colour);
        TreeSet<Integer> gone = new TreeSet<>();
        for (int q = 0; q < n * n; q++) {
            if (now.charAt(q) == '0' + 3 - colour && liberties(now, n, q).isEmpty()) gone.add(q);
        }
        for (int q : gone) now = with(now, q, 0);
        return liberties(now, n, p).isEmpty() ? null : now;
    }

    static int stones(String board, int colour) {
        int sum = 0;
        for (char c : board.toCharArray()) if (c == '0' + colour) sum++;
        return sum;
    }

    // ---- the game

    boolean begin(int size, int komi) {
        if (size < 3 || size > 9 || komi < -200 || komi > 200) return false;
        this.size = size;
        this.komi = komi;
        nodes = new ArrayList<>();
        Node root = new Node();
        root.board = blank(size);
        nodes.add(root);
        place = root;
        dead.clear();
        return true;
    }

    int ko(int k) {
        if (k < 0 || k > 2) return NONE;
        int was = rule;
        rule = k;
        return was;
    }

    boolean barred(String board, Node behind, int turnBehind) {
        if (rule == 0) {
            return behind != null && behind.kind == 1 && behind.parent != null && behind.parent.board.equals(board);
        }
        for (Node n = behind; n != null; n = n.parent) {
            if (n.board.equals(board) && (rule == 1 || n.turn == turnBehind)) return true;
        }
        return false;
    }

    boolean over() {
        return place.kind == 2 && place.parent != null && place.parent.kind == 2;
    }

    Node child(int point) {
        for (Node c : place.children) {
            if (c.kind == (point == NONE ? 2 : 1) && c.point == point && c.colour == place.turn) return c;
        }
        return null;
    }

    int let(int point) {
        if (point != NONE) {
            if (point < 0 || point >= size * size) return 1;
            if (place.board.charAt(point) != '0') return 2;
            String now = played(place.board, size, point, place.turn);
            if (now == null) return 3;
            if (barred(now, place, 3 - place.turn)) return 4;
        }
        if (over()) return 5;
        if (nodes.size() == 250 && child(point) == null) return 6;
        return 0;
    }

    int play(int point) {
        int status = let(point);
        if (status != 0) return status;
        Node to = child(point);
        if (to == null) {
            to = new Node();
            to.parent = place;
            to.colour = place.turn;
            to.turn = 3 - place.turn;
            to.kind = point == NONE ? 2 : 1;
            to.point = point;
            to.board = point == NONE ? place.board : played(place.board, size, point, place.turn);
            to.took = stones(place.board, to.turn) - stones(to.board, to.turn);
            to.number = nodes.size();
            nodes.add(to);
            place.children.add(to);
        }
        place = to;
        dead.clear();
        return 0;
    }

    int back(int k) {
        if (k < 0) return NONE;
        int went = Math.min(k, place.depth());
        for (int i = 0; i < went; i++) place = place.parent;
        if (went > 0) dead.clear();
        return went;
    }

    boolean on(int k) {
        if (k < 0 || k >= place.children.size()) return false;
        place = place.children.get(k);
        dead.clear();
        return true;
    }

    boolean to(int node) {
        if (node < 0 || node >= nodes.size()) return false;
        place = nodes.get(node);
        dead.clear();
        return true;
    }

    int node(int k, int what) {
        if (k < 0 || k >= nodes.size()) return NONE;
        Node n = nodes.get(k);
        return switch (what) {
            case 0 -> n.parent == null ? NONE : n.parent.number;
            case 1 -> n.kind;
            case 3 -> n.colour;
            case 4 -> n.point;
            case 5 -> n.children.size();
            case 6 -> n.depth();
            case 7 -> n.turn;
            case 8 -> n.took;
            default -> NONE;
        };
    }

    // ---- texts

    int feed(int a, int b, int c, int d, int e) {
        if (tape.length() + 20 > 1500) return NONE;
        for (int x : new int[] {a, b, c, d, e}) {
            for (int i = 3; i >= 0; i--) tape += (char) (x >> 8 * i & 255);
        }
        return tape.length();
    }

    int end(int n) {
        if (n < 0 || n > tape.length()) return NONE;
        tape = tape.substring(0, n);
        return n;
    }

    private String text;
    private int pos;
    private int newSize;
    private int newKomi;
    private List<Node> newNodes;

    int read() {
        text = tape;
        tape = "";
        pos = 0;
        newSize = 9;
        newKomi = 0;
        newNodes = new ArrayList<>();
        faultAt = NONE;
        try {
            blanks();
            tree(null);
            blanks();
            if (pos < text.length()) throw new Fault(1, pos);
        } catch (Fault f) {
            faultAt = f.where;
            return f.which;
        }
        size = newSize;
        komi = newKomi;
        nodes = newNodes;
        place = nodes.get(0);
        dead.clear();
        return 0;
    }

    int place() {
        return faultAt;
    }

    private char peek() {
        return pos < text.length() ? text.charAt(pos) : '\uffff';
    }

    private void blanks() {
        while (peek() == ' ' || peek() == '\n' || peek() == '\r') pos++;
    }

    private void need(char c) {
        if (peek() != c) throw new Fault(1, pos);
        pos++;
    }

    private void tree(Node parent) {
        need('(');
        blanks();
        Node last = parent;
        do {
            if (peek() != ';') throw new Fault(1, pos);
            last = node(last);
        } while (peek() == ';');
        while (peek() == '(') {
            tree(last);
            blanks();
        }
        need(')');
    }

    private boolean great() {
        return peek() >= 'A' && peek() <= 'Z';
    }

    private Node node(Node parent) {
        int start = pos;
        if (newNodes.size() == 250) throw new Fault(6, start);
        pos++;
        Node n = new Node();
        n.parent = parent;
        TreeMap<String, Boolean> told = new TreeMap<>();
        blanks();
        while (great()) {
            property(n, told);
            blanks();
        }
        String before = parent == null ? blank(newSize) : parent.board;
        if (n.kind == 0) {
            n.board = before;
            for (int p : n.sets.keySet()) n.board = with(n.board, p, n.sets.get(p) % 3);
            for (int p = 0; p < newSize * newSize; p++) {
                if (n.board.charAt(p) != '0' && liberties(n.board, newSize, p).isEmpty()) throw new Fault(5, start);
            }
            boolean whites = parent == null && n.sets.containsValue(1) && !n.sets.containsValue(2);
            n.turn = parent != null ? parent.turn : whites ? 2 : 1;
        } else {
            n.turn = 3 - n.colour;
            n.board = before;
            if (n.kind == 1) {
                if (before.charAt(n.point) != '0') throw new Fault(4, start);
                n.board = played(before, newSize, n.point, n.colour);
                if (n.board == null || barred(n.board, parent, n.turn)) throw new Fault(4, start);
                n.took = stones(before, n.turn) - stones(n.board, n.turn);
            }
        }
        n.number = newNodes.size();
        newNodes.add(n);
        if (parent != null) parent.children.add(n);
        return n;
    }

    private void property(Node n, TreeMap<String, Boolean> told) {
        int start = pos;
        while (great()) pos++;
        String name = text.substring(start, pos);
        boolean known = List.of("SZ", "KM", "B", "W", "AB", "AW", "AE").contains(name);
        if (known) {
            if (told.containsKey(name)) throw new Fault(2, start);
            boolean moveTold = told.containsKey("B") || told.containsKey("W");
            boolean setTold = told.containsKey("AB") || told.containsKey("AW") || told.containsKey("AE");
            boolean move = name.equals("B") || name.equals("W");
            boolean set = name.startsWith("A");
            boolean head = name.equals("SZ") || name.equals("KM");
            if (move && (moveTold || setTold) || set && moveTold) throw new Fault(2, start);
            if (head && n.parent != null) throw new Fault(2, start);
            if (name.equals("SZ") && (moveTold || setTold)) throw new Fault(2, start);
            told.put(name, true);
        }
        blanks();
        if (peek() != '[') throw new Fault(1, pos);
        int values = 0;
        while (peek() == '[') {
            int open = pos;
            pos++;
            StringBuilder value = new StringBuilder();
            while (peek() != ']') {
                if (pos >= text.length()) throw new Fault(1, text.length());
                if (peek() == '\\') {
                    value.append(peek());
                    pos++;
                    if (pos >= text.length()) throw new Fault(1, text.length());
                }
                value.append(peek());
                pos++;
            }
            pos++;
            values++;
            if (known && !value(n, name, value.toString(), values)) throw new Fault(3, open);
            blanks();
        }
    }

    private int pointOf(String v) {
        if (!v.matches("[a-z][a-z]")) return NONE;
        int c = v.charAt(0) - 'a';
        int r = v.charAt(1) - 'a';
        return c < newSize && r < newSize ? r * newSize + c : NONE;
    }

    private boolean value(Node n, String name, String v, int order) {
        if (name.startsWith("A")) {
            int p = pointOf(v);
            if (p == NONE || n.sets.containsKey(p)) return false;
            n.sets.put(p, name.equals("AB") ? 1 : name.equals("AW") ? 2 : 3);
            return true;
        }
        if (order > 1) return false;
        if (name.equals("SZ")) {
            if (!v.matches("[0-9]{1,3}")) return false;
            newSize = Integer.parseInt(v);
            return newSize >= 3 && newSize <= 9;
        }
        if (name.equals("KM")) {
            if (!v.matches("-?[0-9]{1,3}")) return false;
            newKomi = Integer.parseInt(v);
            return newKomi >= -200 && newKomi <= 200;
        }
        n.colour = name.equals("B") ? 1 : 2;
        n.kind = v.isEmpty() ? 2 : 1;
        n.point = pointOf(v);
        return v.isEmpty() || n.point != NONE;
    }

    int write() {
        out = "(" + writtenFrom(nodes.get(0)) + ")";
        return out.length();
    }

    private String name(int p) {
        return p == NONE ? "[]" : "[" + (char) ('a' + p % size) + (char) ('a' + p / size) + "]";
    }

    private String writtenFrom(Node n) {
        StringBuilder s = new StringBuilder(";");
        if (n.parent == null) s.append("SZ[").append(size).append("]").append(komi == 0 ? "" : "KM[" + komi + "]");
        if (n.kind == 0) {
            String[] names = {"", "AB", "AW", "AE"};
            for (int what = 1; what <= 3; what++) {
                if (!n.sets.containsValue(what)) continue;
                s.append(names[what]);
                for (int p : n.sets.keySet()) if (n.sets.get(p) == what) s.append(name(p));
            }
        } else {
            s.append(n.colour == 1 ? "B" : "W").append(name(n.point));
        }
        for (Node c : n.children) {
            s.append(n.children.size() > 1 ? "(" + writtenFrom(c) + ")" : writtenFrom(c));
        }
        return s.toString();
    }

    int octet(int i) {
        return i < 0 || i >= out.length() ? NONE : out.charAt(i);
    }

    // ---- what stands on the board

    boolean isPoint(int p) {
        return p >= 0 && p < size * size;
    }

    boolean isStone(int p) {
        return isPoint(p) && place.board.charAt(p) != '0';
    }

    int at(int p) {
        return isPoint(p) ? place.board.charAt(p) - '0' : NONE;
    }

    int chain(int p, int what) {
        if (!isStone(p)) return NONE;
        TreeSet<Integer> chain = chainAt(place.board, size, p);
        return switch (what) {
            case 0 -> chain.first();
            case 1 -> chain.size();
            case 2 -> liberties(place.board, size, p).size();
            case 3 -> living(at(p)).contains(chain) ? 1 : 0;
            case 4 -> dead.contains(p) ? 1 : 0;
            default -> NONE;
        };
    }

    int liberty(int p, int i) {
        if (!isStone(p)) return NONE;
        List<Integer> all = new ArrayList<>(liberties(place.board, size, p));
        return i < 0 || i >= all.size() ? NONE : all.get(i);
    }

    private List<TreeSet<Integer>> parts(String over) {
        List<TreeSet<Integer>> list = new ArrayList<>();
        for (int p = 0; p < size * size; p++) {
            TreeSet<Integer> part = part(place.board, size, p, over);
            if (!part.isEmpty() && !list.contains(part)) list.add(part);
        }
        return list;
    }

    private String others(int colour) {
        return colour == 1 ? "02" : "01";
    }

    private boolean vital(TreeSet<Integer> region, TreeSet<Integer> chain) {
        boolean any = false;
        TreeSet<Integer> free = rim(place.board, size, chain, '0');
        for (int p : region) {
            if (place.board.charAt(p) != '0') continue;
            any = true;
            if (!free.contains(p)) return false;
        }
        return any;
    }

    private List<TreeSet<Integer>> living(int colour) {
        List<TreeSet<Integer>> chains = parts("" + colour);
        List<TreeSet<Integer>> regions = parts(others(colour));
        List<TreeSet<Integer>> gone = new ArrayList<>();
        boolean more = true;
        while (more) {
            more = false;
            for (TreeSet<Integer> chain : new ArrayList<>(chains)) {
                int eyes = 0;
                for (TreeSet<Integer> region : regions) if (vital(region, chain)) eyes++;
                if (eyes < 2) {
                    chains.remove(chain);
                    gone.add(chain);
                    more = true;
                }
            }
            for (TreeSet<Integer> region : new ArrayList<>(regions)) {
                boolean leaves = false;
                for (TreeSet<Integer> chain : gone) {
                    for (int p : chain) for (int q : around(size, p)) leaves |= region.contains(q);
                }
                if (leaves) {
                    regions.remove(region);
                    more = true;
                }
            }
        }
        return chains;
    }

    int region(int colour, int p, int what) {
        if (colour < 1 || colour > 2 || !isPoint(p) || at(p) == colour) return NONE;
        TreeSet<Integer> region = part(place.board, size, p, others(colour));
        int empty = 0;
        for (int q : region) if (at(q) == 0) empty++;
        int vital = 0;
        for (TreeSet<Integer> chain : parts("" + colour)) if (vital(region, chain)) vital++;
        return switch (what) {
            case 0 -> region.first();
            case 1 -> region.size();
            case 2 -> empty;
            case 3 -> vital;
            default -> NONE;
        };
    }

    // ---- ladders

    int ladder(int p) {
        if (!isStone(p) || liberties(place.board, size, p).size() > 2) return NONE;
        ladderSteps = 0;
        ladderFirst = NONE;
        try {
            int first = takes(place.board, null, p, at(p));
            ladderFirst = first;
            return first == NONE ? 0 : 1;
        } catch (Untold untold) {
            return 2;
        }
    }

    int steps(int what) {
        return what == 0 ? ladderSteps : what == 1 ? ladderFirst : NONE;
    }

    private String step(String board, String before, int p, int colour) {
        if (ladderSteps == 600) throw new Untold();
        ladderSteps++;
        String now = played(board, size, p, colour);
        return now == null || now.equals(before) ? null : now;
    }

    /** The play that takes, or NONE. */
    private int takes(String board, String before, int p, int colour) {
        TreeSet<Integer> free = liberties(board, size, p);
        if (free.size() == 1) {
            return step(board, before, free.first(), 3 - colour) != null ? free.first() : NONE;
        }
        if (free.size() != 2) return NONE;
        for (int q : free) {
            String now = step(board, before, q, 3 - colour);
            if (now != null && !saved(now, board, p, colour)) return q;
        }
        return NONE;
    }

    private boolean saved(String board, String before, int p, int colour) {
        TreeSet<Integer> free = liberties(board, size, p);
        if (free.size() >= 2) return true;
        TreeSet<Integer> captures = new TreeSet<>();
        for (int q : rim(board, size, chainAt(board, size, p), (char) ('0' + 3 - colour))) {
            TreeSet<Integer> theirs = liberties(board, size, q);
            if (theirs.size() == 1) captures.add(theirs.first());
        }
        List<Integer> moves = new ArrayList<>(captures);
        if (free.size() == 1 && !captures.contains(free.first())) moves.add(free.first());
        for (int q : moves) {
            String now = step(board, before, q, colour);
            if (now == null) continue;
            int count = liberties(now, size, p).size();
            if (count >= 3 || count == 2 && takes(now, board, p, colour) == NONE) return true;
        }
        return false;
    }

    // ---- scores

    int dead(int p, boolean is) {
        if (!isStone(p)) return NONE;
        TreeSet<Integer> chain = chainAt(place.board, size, p);
        if (is) dead.addAll(chain);
        else dead.removeAll(chain);
        return chain.size();
    }

    int score(int colour, int what) {
        if (colour < 1 || colour > 2) return NONE;
        String board = place.board;
        int[] deadOf = new int[3];
        for (int p : dead) {
            deadOf[at(p)]++;
            board = with(board, p, 0);
        }
        int land = 0;
        for (int p = 0; p < size * size; p++) {
            if (board.charAt(p) != '0') continue;
            TreeSet<Integer> part = part(board, size, p, "0");
            boolean own = !rim(board, size, part, (char) ('0' + colour)).isEmpty();
            boolean theirs = !rim(board, size, part, (char) ('0' + 3 - colour)).isEmpty();
            if (own && !theirs) land++;
        }
        int taken = 0;
        for (Node n = place; n != null; n = n.parent) if (n.colour == colour) taken += n.took;
        return switch (what) {
            case 0 -> stones(board, colour) + land;
            case 1 -> land + taken + deadOf[3 - colour];
            case 2 -> taken;
            case 3 -> deadOf[colour];
            default -> NONE;
        };
    }

    int ahead(int what) {
        return what == 0 || what == 1 ? 2 * score(1, what) - 2 * score(2, what) - komi : 0;
    }

    // ---- clocks

    boolean clocks(int m, int k, int s) {
        for (int x : new int[] {m, k, s}) if (x < 0 || x > 100000) return false;
        if (k > 0 && s == 0) return false;
        for (int colour = 1; colour <= 2; colour++) {
            main[colour] = m;
            periods[colour] = k;
            lost[colour] = false;
        }
        seconds = s;
        return true;
    }

    int clock(int colour, int t) {
        if (colour < 1 || colour > 2 || t < 0 || t > 100000 || lost[1] || lost[2]) return NONE;
        int left = t;
        while (left > 0 && main[colour] > 0) {
            left--;
            main[colour]--;
        }
        if (periods[colour] == 0) {
            lost[colour] = left > 0;
        } else {
            while (left >= seconds && periods[colour] > 0) {
                left -= seconds;
                periods[colour]--;
            }
            lost[colour] = periods[colour] == 0;
        }
        return lost[colour] ? 1 : 0;
    }

    int time(int colour, int what) {
        if (colour < 1 || colour > 2) return NONE;
        return what == 0 ? main[colour] : what == 1 ? periods[colour] : what == 2 ? (lost[colour] ? 1 : 0) : NONE;
    }

    int count(int what) {
        return switch (what) {
            case 0 -> nodes.size();
            case 1 -> place.number;
            case 2 -> size;
            case 3 -> komi;
            case 4 -> place.turn;
            case 5 -> over() ? 1 : 0;
            case 6 -> parts("1").size() + parts("2").size();
            case 7 -> stones(place.board, 1) + stones(place.board, 2);
            case 8 -> tape.length();
            case 9 -> rule;
            default -> NONE;
        };
    }
}
