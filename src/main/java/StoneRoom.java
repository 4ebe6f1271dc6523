import java.util.Arrays;

/**
 * A stone room: the game of Go by its laws.
 *
 * Every row that a call needs is made with the object and used again, so that no call makes anything anew.
 */
public final class StoneRoom {
    public static final int NONE = -1;

    private static final int EMPTY = 0;
    private static final int BLACK = 1;
    private static final int WHITE = 2;

    private static final int LEAST_SIZE = 3;
    private static final int MOST_SIZE = 9;
    private static final int MOST_POINTS = 81;
    private static final int MOST_KOMI = 200;
    private static final int MOST_NODES = 250;
    private static final int MOST_TAPE = 1500;
    /** 250 nodes of 8 bytes each, and the at most 1500 bytes of points that a text can have set. */
    private static final int MOST_OUT = 4096;
    private static final int MOST_SECONDS = 100000;

    /** A board is kept as two bits a point, 32 points a long. */
    private static final int WORDS = 3;

    private static final int SETS = 0;
    private static final int PLAY = 1;
    private static final int PASS = 2;

    /** The content that a point set to empty has among settings, where 0 is a point that is not set. */
    private static final int SET_EMPTY = 3;

    private static final int LET = 0;
    private static final int NO_POINT = 1;
    private static final int NOT_EMPTY = 2;
    private static final int SUICIDE = 3;
    private static final int REPEATED = 4;
    private static final int OVER = 5;
    private static final int FULL = 6;

    private Tree game = new Tree();
    /** A text is read into the spare tree, so that a fault leaves the game as it is. */
    private Tree spare = new Tree();
    private final Bytes tape = new Bytes(MOST_TAPE);
    private final Bytes out = new Bytes(MOST_OUT);
    /** The board at the place; trial is for what is tried, and nothing is kept on it between calls. */
    private final Board here = new Board();
    private final Board trial = new Board();
    private final Reader reader = new Reader(tape, trial, spare);
    private final Writer writer = new Writer(out);
    private final Life life = new Life(here);
    private final Ladder hunt = new Ladder(trial);
    private final Tally tally = new Tally(here, trial);
    private final Clock blackClock = new Clock();
    private final Clock whiteClock = new Clock();
    private int koRule = 1;

    public StoneRoom() {
        startGame(MOST_SIZE, 0);
    }

    public boolean begin(int size, int komi) {
        if (!isSize(size) || !isKomi(komi)) {
            return false;
        }
        startGame(size, komi);
        return true;
    }

    public int ko(int k) {
        if (k < 0 || k > 2) {
            return NONE;
        }
        int before = koRule;
        koRule = k;
        return before;
    }

    public int feed(int a, int b, int c, int d, int e) {
        if (tape.length + 20 > MOST_TAPE) {
            return NONE;
        }
        tape.addNumber(a);
        tape.addNumber(b);
        tape.addNumber(c);
        tape.addNumber(d);
        tape.addNumber(e);
        return tape.length;
    }

    public int end(int n) {
        if (n < 0 || n > tape.length) {
            return NONE;
        }
        tape.length = n;
        return n;
    }

    public int read() {
        int fault = reader.readText(spare, koRule);
        tape.length = 0;
        if (fault == 0) {
            Tree old = game;
            game = spare;
            spare = old;
            here.shape(game.size);
            moveTo(0);
        }
        return fault;
    }

    public int place() {
        return reader.faultAt;
    }

    public int write() {
        writer.writeGame(game);
        return out.length;
    }

    public int octet(int i) {
        return out.byteAt(i);
    }

    public int let(int point) {
        return statusOf(point);
    }

    public int play(int point) {
        int status = statusOf(point);
        if (status != LET) {
            return status;
        }
        int mover = game.turnAt(game.place);
        int child = game.childOf(game.place, mover, point);
        if (child == NONE) {
            if (point == NONE) {
                trial.copyOf(here);
            }
            child = game.addMove(game.place, mover, point, trial);
        }
        moveTo(child);
        return LET;
    }

    public int back(int k) {
        if (k < 0) {
            return NONE;
        }
        int target = game.place;
        int went = 0;
        while (went < k && went < MOST_NODES && game.parentOf(target) != NONE) {
            target = game.parentOf(target);
            went++;
        }
        if (went > 0) {
            moveTo(target);
        }
        return went;
    }

    public boolean on(int k) {
        int child = game.nthChild(game.place, k);
        if (child == NONE) {
            return false;
        }
        moveTo(child);
        return true;
    }

    public boolean to(int node) {
        if (!game.has(node)) {
            return false;
        }
        moveTo(node);
        return true;
    }

    public int node(int k, int what) {
        return game.tell(k, what);
    }

    public int at(int point) {
        return here.contentOf(point);
    }

    public int chain(int point, int what) {
        if (!here.hasStone(point)) {
            return NONE;
        }
        here.gatherChain(point);
        switch (what) {
            case 0:
                return here.leastGathered();
            case 1:
                return here.gathered;
            case 2:
                return here.liberties();
            case 3:
                return life.lives(point) ? 1 : 0;
            case 4:
                return tally.isDead(point) ? 1 : 0;
            default:
                return NONE;
        }
    }

    public int liberty(int point, int i) {
        if (i < 0 || !here.hasStone(point)) {
            return NONE;
        }
        here.gatherChain(point);
        return here.nthLiberty(i);
    }

    public int region(int colour, int point, int what) {
        if (!isColour(colour) || !here.has(point) || here.contentOf(point) == colour) {
            return NONE;
        }
        return life.tellRegion(colour, point, what);
    }

    public int ladder(int point) {
        if (!here.hasStone(point)) {
            return NONE;
        }
        here.gatherChain(point);
        if (here.liberties() > 2) {
            return NONE;
        }
        return hunt.readOut(here, point);
    }

    public int steps(int what) {
        switch (what) {
            case 0:
                return hunt.tries;
            case 1:
                return hunt.taker;
            default:
                return NONE;
        }
    }

    public int dead(int point, boolean is) {
        if (!here.hasStone(point)) {
            return NONE;
        }
        here.gatherChain(point);
        tally.markGathered(is);
        return here.gathered;
    }

    public int score(int colour, int what) {
        if (!isColour(colour) || what < 0 || what > 3) {
            return NONE;
        }
        return scoreOf(colour, what);
    }

    public int ahead(int what) {
        if (what != 0 && what != 1) {
            return 0;
        }
        return 2 * (scoreOf(BLACK, what) - scoreOf(WHITE, what)) - game.komi;
    }

    public boolean clocks(int main, int periods, int seconds) {
        if (!isSeconds(main) || !isSeconds(periods) || !isSeconds(seconds)) {
            return false;
        }
        if (periods > 0 && seconds == 0) {
            return false;
        }
        blackClock.wind(main, periods, seconds);
        whiteClock.wind(main, periods, seconds);
        return true;
    }

    public int clock(int colour, int t) {
        if (!isColour(colour) || !isSeconds(t) || blackClock.lost || whiteClock.lost) {
            return NONE;
        }
        Clock running = clockOf(colour);
        running.spend(t);
        return running.lost ? 1 : 0;
    }

    public int time(int colour, int what) {
        return isColour(colour) ? clockOf(colour).tell(what) : NONE;
    }

    public int count(int what) {
        switch (what) {
            case 0:
                return game.nodes;
            case 1:
                return game.place;
            case 2:
                return game.size;
            case 3:
                return game.komi;
            case 4:
                return game.turnAt(game.place);
            case 5:
                return game.isOver(game.place) ? 1 : 0;
            case 6:
                return here.countChains();
            case 7:
                return here.countOf(BLACK) + here.countOf(WHITE);
            case 8:
                return tape.length;
            case 9:
                return koRule;
            default:
                return NONE;
        }
    }

    private static boolean isSize(int size) {
        return size >= LEAST_SIZE && size <= MOST_SIZE;
    }

    private static boolean isKomi(int komi) {
        return komi >= -MOST_KOMI && komi <= MOST_KOMI;
    }

    private static boolean isColour(int colour) {
        return colour == BLACK || colour == WHITE;
    }

    private static boolean isSeconds(int seconds) {
        return seconds >= 0 && seconds <= MOST_SECONDS;
    }

    private static int otherColour(int colour) {
        return colour == BLACK ? WHITE : BLACK;
    }

    /** The two bits of a point in a row of packed boards. */
    private static int pairAt(long[] row, int from, int point) {
        int word = from + (point >> 5);
        return word < 0 || word >= row.length ? 0 : (int) (row[word] >>> (2 * (point & 31))) & 3;
    }

    private Clock clockOf(int colour) {
        return colour == BLACK ? blackClock : whiteClock;
    }

    private void startGame(int size, int komi) {
        game.clear(size, komi);
        here.shape(size);
        game.addSets(NONE, BLACK, here);
        moveTo(0);
    }

    private void moveTo(int node) {
        if (game.has(node)) {
            game.place = node;
            here.load(game.boards, node * WORDS);
            tally.forgetDead();
        }
    }

    /** Behind the answer LET for a point, trial has the board that the play makes. */
    private int statusOf(int point) {
        int mover = game.turnAt(game.place);
        if (point != NONE) {
            int status = boardStatus(point, mover);
            if (status != LET) {
                return status;
            }
        }
        if (game.isOver(game.place)) {
            return OVER;
        }
        if (game.nodes >= MOST_NODES && game.childOf(game.place, mover, point) == NONE) {
            return FULL;
        }
        return LET;
    }

    private int boardStatus(int point, int mover) {
        if (!here.has(point)) {
            return NO_POINT;
        }
        trial.copyOf(here);
        return game.tryPlay(trial, game.place, point, mover, koRule);
    }

    private int scoreOf(int colour, int what) {
        int other = otherColour(colour);
        tally.survey();
        switch (what) {
            case 0:
                return tally.standingOf(colour) + tally.landOf(colour);
            case 1:
                return tally.landOf(colour) + game.takenBy(colour) + tally.deadOf(other);
            case 2:
                return game.takenBy(colour);
            default:
                return tally.deadOf(colour);
        }
    }

    /** A row of bytes with an end that moves: the tape, and what is written. */
    private static final class Bytes {
        private final byte[] row;
        private int length = 0;

        private Bytes(int most) {
            row = new byte[Math.max(most, 0)];
        }

        private void addByte(int b) {
            if (length >= 0 && length < row.length) {
                row[length] = (byte) b;
                length++;
            }
        }

        private void addNumber(int number) {
            for (int shift = 24; shift >= 0; shift -= 8) {
                addByte(number >>> shift);
            }
        }

        private void addText(String text) {
            for (int i = 0; i < text.length(); i++) {
                addByte(text.charAt(i));
            }
        }

        /** NONE behind the end, so that a reader sees the end as a byte that stands nowhere. */
        private int byteAt(int i) {
            return i < 0 || i >= length || i >= row.length ? NONE : row[i] & 255;
        }
    }

    /** One board, and what hangs together on it. */
    private static final class Board {
        private final byte[] stones = new byte[MOST_POINTS];
        private final int[] beside = new int[4 * MOST_POINTS];
        /** The points gathered last; within[p] and rim[p] tell the latest gathering that p was in, or at the rim of. */
        private final int[] group = new int[MOST_POINTS];
        private final int[] within = new int[MOST_POINTS];
        private final int[] rim = new int[MOST_POINTS];
        private final int[] rimCount = new int[3];
        private final long[] packed = new long[WORDS];
        private int size = 0;
        private int points = 0;
        private int gathered = 0;
        private int gathering = 0;
        private int latestLiberty = NONE;
        private int taken = 0;

        /** An empty board of that size. */
        private void shape(int newSize) {
            Arrays.fill(stones, (byte) EMPTY);
            if (newSize == size || !isSize(newSize)) {
                return;
            }
            size = newSize;
            points = size * size;
            for (int row = 0; row < size; row++) {
                for (int column = 0; column < size; column++) {
                    layNeighbours(row, column);
                }
            }
        }

        private void layNeighbours(int row, int column) {
            int point = row * size + column;
            int first = 4 * point;
            beside[first] = row > 0 ? point - size : NONE;
            beside[first + 1] = column > 0 ? point - 1 : NONE;
            beside[first + 2] = column < size - 1 ? point + 1 : NONE;
            beside[first + 3] = row < size - 1 ? point + size : NONE;
        }

        private void copyOf(Board other) {
            shape(other.size);
            System.arraycopy(other.stones, 0, stones, 0, MOST_POINTS);
        }

        private void pack() {
            store(packed, 0);
        }

        private void store(long[] boards, int from) {
            if (from < 0 || from + WORDS > boards.length) {
                return;
            }
            for (int word = 0; word < WORDS; word++) {
                long bits = 0L;
                for (int p = 32 * word; p < 32 * word + 32 && p < points; p++) {
                    bits |= (long) stones[p] << (2 * (p & 31));
                }
                boards[from + word] = bits;
            }
        }

        private void load(long[] boards, int from) {
            for (int p = 0; p < points; p++) {
                stones[p] = (byte) pairAt(boards, from, p);
            }
        }

        /** As the board was packed last. */
        private boolean packedAs(long[] boards, int from) {
            return from >= 0 && from + WORDS <= boards.length && boards[from] == packed[0]
                && boards[from + 1] == packed[1] && boards[from + 2] == packed[2];
        }

        private boolean has(int point) {
            return point >= 0 && point < points;
        }

        private int contentOf(int point) {
            return point >= 0 && point < points ? stones[point] : NONE;
        }

        private boolean hasStone(int point) {
            return contentOf(point) > EMPTY;
        }

        private void lay(int point, int content) {
            if (has(point)) {
                stones[point] = (byte) content;
            }
        }

        /** The neighbour in one of four directions, or NONE. */
        private int neighbour(int point, int direction) {
            boolean known = point >= 0 && point < points && direction >= 0 && direction < 4;
            return known ? beside[4 * point + direction] : NONE;
        }

        /** Gathers what hangs together with a point over points whose content has its bit in the mask. */
        private void gather(int start, int mask) {
            gathering++;
            gathered = 0;
            latestLiberty = NONE;
            rimCount[EMPTY] = 0;
            rimCount[BLACK] = 0;
            rimCount[WHITE] = 0;
            if (start < 0 || start >= points) {
                return;
            }
            within[start] = gathering;
            group[0] = start;
            gathered = 1;
            for (int i = 0; i < gathered && i < MOST_POINTS; i++) {
                for (int direction = 0; direction < 4; direction++) {
                    int point = beside[4 * group[i] + direction];
                    if (point < 0 || within[point] == gathering || rim[point] == gathering) {
                        continue;
                    }
                    int content = stones[point];
                    if ((mask >> content & 1) == 0) {
                        rim[point] = gathering;
                        if (content >= EMPTY && content <= WHITE) {
                            rimCount[content]++;
                        }
                        latestLiberty = content == EMPTY ? point : latestLiberty;
                    } else if (gathered < MOST_POINTS) {
                        within[point] = gathering;
                        group[gathered] = point;
                        gathered++;
                    }
                }
            }
        }

        private void gatherChain(int point) {
            int content = contentOf(point);
            if (content > EMPTY) {
                gather(point, 1 << content);
            }
        }

        private int liberties() {
            return rimCount[EMPTY];
        }

        private boolean onRim(int point, int ofGathering) {
            return has(point) && rim[point] == ofGathering;
        }

        private boolean gatheredSince(int point, int earlier) {
            return has(point) && within[point] > earlier;
        }

        private int leastGathered() {
            int least = points;
            for (int i = 0; i < gathered && i < MOST_POINTS; i++) {
                least = Math.min(least, group[i]);
            }
            return least;
        }

        private int nthLiberty(int n) {
            int left = n;
            for (int p = 0; p < points; p++) {
                if (stones[p] == EMPTY && rim[p] == gathering) {
                    if (left == 0) {
                        return p;
                    }
                    left--;
                }
            }
            return NONE;
        }

        /** Puts a stone on an empty point and takes what it takes; false: it is suicide. */
        private boolean put(int point, int colour) {
            if (point < 0 || point >= points) {
                return false;
            }
            int other = otherColour(colour);
            stones[point] = (byte) colour;
            taken = 0;
            for (int direction = 0; direction < 4; direction++) {
                int beyond = neighbour(point, direction);
                if (contentOf(beyond) == other) {
                    gather(beyond, 1 << other);
                    takeIfStifled();
                }
            }
            gather(point, 1 << colour);
            return liberties() > 0;
        }

        private void takeIfStifled() {
            if (rimCount[EMPTY] > 0) {
                return;
            }
            for (int i = 0; i < gathered && i < MOST_POINTS; i++) {
                stones[group[i]] = EMPTY;
            }
            taken += gathered;
        }

        private boolean allBreathe() {
            int earlier = gathering;
            for (int p = 0; p < points; p++) {
                if (stones[p] != EMPTY && !gatheredSince(p, earlier)) {
                    gatherChain(p);
                    if (liberties() == 0) {
                        return false;
                    }
                }
            }
            return true;
        }

        private int countChains() {
            int earlier = gathering;
            int chains = 0;
            for (int p = 0; p < points; p++) {
                if (stones[p] != EMPTY && !gatheredSince(p, earlier)) {
                    gatherChain(p);
                    chains++;
                }
            }
            return chains;
        }

        private int countOf(int content) {
            int found = 0;
            for (int p = 0; p < points; p++) {
                if (stones[p] == content) {
                    found++;
                }
            }
            return found;
        }
    }

    /** A game: its nodes by number, each with its board. */
    private static final class Tree {
        private final int[] parent = new int[MOST_NODES];
        private final int[] firstChild = new int[MOST_NODES];
        private final int[] lastChild = new int[MOST_NODES];
        private final int[] nextChild = new int[MOST_NODES];
        private final int[] children = new int[MOST_NODES];
        private final int[] depth = new int[MOST_NODES];
        private final int[] kind = new int[MOST_NODES];
        private final int[] colour = new int[MOST_NODES];
        private final int[] point = new int[MOST_NODES];
        private final int[] turn = new int[MOST_NODES];
        private final int[] took = new int[MOST_NODES];
        private final long[] boards = new long[MOST_NODES * WORDS];
        /** What a node sets, packed as boards are; the content 3 is a point set to empty. */
        private final long[] settings = new long[MOST_NODES * WORDS];
        private int size = MOST_SIZE;
        private int komi = 0;
        private int nodes = 0;
        private int place = 0;

        private void clear(int newSize, int newKomi) {
            size = newSize;
            komi = newKomi;
            nodes = 0;
            place = 0;
        }

        private boolean has(int node) {
            return node >= 0 && node < nodes && node < MOST_NODES;
        }

        private int turnAt(int node) {
            return has(node) ? turn[node] : BLACK;
        }

        private int kindOf(int node) {
            return has(node) ? kind[node] : NONE;
        }

        private int parentOf(int node) {
            return has(node) ? parent[node] : NONE;
        }

        /** A node that sets nothing yet; see copySettings. */
        private int addSets(int behind, int turnBehind, Board board) {
            int node = addNode(behind, board);
            if (node != NONE) {
                kind[node] = SETS;
                colour[node] = EMPTY;
                point[node] = NONE;
                turn[node] = turnBehind;
            }
            return node;
        }

        private void copySettings(int node, long[] packed) {
            if (has(node) && packed.length >= WORDS) {
                System.arraycopy(packed, 0, settings, node * WORDS, WORDS);
            }
        }

        /** A play on a point, board being what it made; or a pass, the point being NONE. */
        private int addMove(int behind, int mover, int where, Board board) {
            int node = addNode(behind, board);
            if (node != NONE) {
                kind[node] = where == NONE ? PASS : PLAY;
                colour[node] = mover;
                point[node] = where;
                turn[node] = otherColour(mover);
                took[node] = where == NONE ? 0 : board.taken;
            }
            return node;
        }

        private int addNode(int behind, Board board) {
            if (nodes >= MOST_NODES) {
                return NONE;
            }
            int node = nodes;
            nodes++;
            parent[node] = behind;
            firstChild[node] = NONE;
            lastChild[node] = NONE;
            nextChild[node] = NONE;
            children[node] = 0;
            depth[node] = 0;
            took[node] = 0;
            for (int word = node * WORDS; word < (node + 1) * WORDS; word++) {
                settings[word] = 0L;
            }
            board.store(boards, node * WORDS);
            if (has(behind)) {
                depth[node] = depth[behind] + 1;
                int elder = lastChild[behind];
                if (has(elder)) {
                    nextChild[elder] = node;
                } else {
                    firstChild[behind] = node;
                }
                lastChild[behind] = node;
                children[behind]++;
            }
            return node;
        }

        private int nthChild(int node, int n) {
            if (!has(node) || n < 0 || n >= children[node]) {
                return NONE;
            }
            int child = firstChild[node];
            for (int i = 0; i < n && has(child); i++) {
                child = nextChild[child];
            }
            return child;
        }

        /** The least child that is this move; a pass has NONE as its point, as sets have, but sets have no colour. */
        private int childOf(int node, int mover, int where) {
            int child = has(node) ? firstChild[node] : NONE;
            for (int i = 0; i < MOST_NODES && has(child); i++) {
                if (colour[child] == mover && point[child] == where) {
                    return child;
                }
                child = nextChild[child];
            }
            return NONE;
        }

        private boolean isOver(int node) {
            return kindOf(node) == PASS && kindOf(parentOf(node)) == PASS;
        }

        /** Plays on a board that is as at the node behind which the play comes: LET, or why it is not let. */
        private int tryPlay(Board board, int behind, int where, int mover, int koRule) {
            if (board.contentOf(where) != EMPTY) {
                return NOT_EMPTY;
            }
            if (!board.put(where, mover)) {
                return SUICIDE;
            }
            board.pack();
            return isBarred(board, behind, otherColour(mover), koRule) ? REPEATED : LET;
        }

        /** Whether ko bars the board as it was packed last. */
        private boolean isBarred(Board board, int behind, int turnBehind, int koRule) {
            if (koRule == 0) {
                return has(behind) && kind[behind] == PLAY && board.packedAs(boards, parent[behind] * WORDS);
            }
            int node = behind;
            for (int i = 0; i < MOST_NODES && has(node); i++) {
                if (board.packedAs(boards, node * WORDS) && (koRule == 1 || turn[node] == turnBehind)) {
                    return true;
                }
                node = parent[node];
            }
            return false;
        }

        /** Stones that a colour took from the root to the place. */
        private int takenBy(int taker) {
            int sum = 0;
            int node = place;
            for (int i = 0; i < MOST_NODES && has(node); i++) {
                if (colour[node] == taker) {
                    sum += took[node];
                }
                node = parent[node];
            }
            return sum;
        }

        private int tell(int node, int what) {
            if (!has(node)) {
                return NONE;
            }
            switch (what) {
                case 0:
                    return parent[node];
                case 1:
                    return kind[node];
                case 3:
                    return colour[node];
                case 4:
                    return point[node];
                case 5:
                    return children[node];
                case 6:
                    return depth[node];
                case 7:
                    return turn[node];
                case 8:
                    return took[node];
                default:
                    return NONE;
            }
        }
    }

    /** Reads the tape into a tree, up to its first fault. */
    private static final class Reader {
        private static final int BAD_BYTE = 1;
        private static final int BAD_NAME = 2;
        private static final int BAD_VALUE = 3;
        private static final int BAD_PLAY = 4;
        private static final int BAD_SET = 5;
        private static final int TOO_MANY = 6;

        /** Names are bits, so that those told in a node are one number; a name that counts nothing is 0. */
        private static final int SZ = 1;
        private static final int KM = 2;
        private static final int B = 4;
        private static final int W = 8;
        private static final int AB = 16;
        private static final int AW = 32;
        private static final int AE = 64;
        private static final int MOVES = B | W;
        private static final int SETTERS = AB | AW | AE;

        /** What has come last, by which it is known what may stand next. */
        private static final int AT_START = 0;
        private static final int BEHIND_OPENING = 1;
        private static final int BEHIND_NODE = 2;
        private static final int BEHIND_TREE = 3;
        private static final int AT_END = 4;

        private final Bytes tape;
        private final Board board;
        /** For each tree that is open, the node that it hangs behind. */
        private final int[] opened = new int[MOST_NODES + 2];
        private final long[] settings = new long[WORDS];
        private Tree tree;
        private int koRule = 1;
        private int at = 0;
        private int state = AT_START;
        private int fault = 0;
        private int faultAt = NONE;
        private int open = 0;
        /** The node that the next one comes behind. */
        private int behind = NONE;
        private int nodeAt = 0;
        private int told = 0;
        private int mover = EMPTY;
        private int moved = NONE;

        private Reader(Bytes tape, Board board, Tree tree) {
            this.tape = tape;
            this.board = board;
            this.tree = tree;
        }

        private int readText(Tree into, int rule) {
            startText(into, rule);
            // Each round takes a byte or more, and one more round sees the end.
            for (int i = 0; i <= MOST_TAPE && fault == 0; i++) {
                skipBlanks();
                int b = tape.byteAt(at);
                if (b == ';' && (state == BEHIND_OPENING || state == BEHIND_NODE)) {
                    readNode();
                } else if (b == '(' && state != BEHIND_OPENING && state != AT_END) {
                    openTree();
                } else if (b == ')' && (state == BEHIND_NODE || state == BEHIND_TREE)) {
                    closeTree();
                } else if (b == NONE && state == AT_END) {
                    break;
                } else {
                    fail(BAD_BYTE, at);
                }
            }
            return fault;
        }

        private void startText(Tree into, int rule) {
            tree = into;
            tree.clear(MOST_SIZE, 0);
            koRule = rule;
            at = 0;
            state = AT_START;
            fault = 0;
            faultAt = NONE;
            open = 0;
            behind = NONE;
        }

        private void fail(int which, int where) {
            fault = which;
            faultAt = where;
        }

        private void skipBlanks() {
            while (at < tape.length && isBlank(tape.byteAt(at))) {
                at++;
            }
        }

        private static boolean isBlank(int b) {
            return b == 32 || b == 10 || b == 13;
        }

        private static boolean isGreat(int b) {
            return b >= 'A' && b <= 'Z';
        }

        private void openTree() {
            if (open >= 0 && open < opened.length) {
                opened[open] = behind;
                open++;
            }
            at++;
            state = BEHIND_OPENING;
        }

        private void closeTree() {
            if (open > 0 && open <= opened.length) {
                open--;
                behind = opened[open];
            }
            at++;
            state = open == 0 ? AT_END : BEHIND_TREE;
        }

        private void readNode() {
            if (tree.nodes >= MOST_NODES) {
                fail(TOO_MANY, at);
                return;
            }
            nodeAt = at;
            told = 0;
            mover = EMPTY;
            moved = NONE;
            Arrays.fill(settings, 0L);
            at++;
            state = BEHIND_NODE;
            skipBlanks();
            for (int i = 0; i < MOST_TAPE && fault == 0 && isGreat(tape.byteAt(at)); i++) {
                readProperty();
                skipBlanks();
            }
            if (fault == 0 && mover == EMPTY) {
                settleSets();
            } else if (fault == 0) {
                settleMove();
            }
        }

        private void readProperty() {
            int nameAt = at;
            while (at < tape.length && isGreat(tape.byteAt(at))) {
                at++;
            }
            int name = nameOf(nameAt, at - nameAt);
            if (isMisplaced(name)) {
                fail(BAD_NAME, nameAt);
                return;
            }
            told |= name;
            skipBlanks();
            if (tape.byteAt(at) != '[') {
                fail(BAD_BYTE, at);
            }
            for (int order = 0; order < MOST_TAPE && fault == 0 && tape.byteAt(at) == '['; order++) {
                readValue(name, order);
                skipBlanks();
            }
        }

        private int nameOf(int from, int letters) {
            int first = tape.byteAt(from);
            if (letters == 1) {
                return first == 'B' ? B : first == 'W' ? W : 0;
            }
            if (letters != 2) {
                return 0;
            }
            int second = tape.byteAt(from + 1);
            if (first == 'A') {
                return second == 'B' ? AB : second == 'W' ? AW : second == 'E' ? AE : 0;
            }
            if (first == 'S' && second == 'Z') {
                return SZ;
            }
            return first == 'K' && second == 'M' ? KM : 0;
        }

        private boolean isMisplaced(int name) {
            if ((told & name) != 0) {
                return true;
            }
            if ((name & (SZ | KM)) != 0 && tree.nodes > 0) {
                return true;
            }
            if (name == SZ || (name & MOVES) != 0) {
                return (told & (MOVES | SETTERS)) != 0;
            }
            return (name & SETTERS) != 0 && (told & MOVES) != 0;
        }

        private void readValue(int name, int order) {
            int opening = at;
            int from = opening + 1;
            int upTo = closingBehind(opening);
            if (upTo >= tape.length) {
                fail(BAD_BYTE, tape.length);
                return;
            }
            at = upTo + 1;
            boolean good = order == 0;
            if (name == 0) {
                good = true;
            } else if ((name & SETTERS) != 0) {
                good = takeSetting(name, pointIn(from, upTo));
            } else if ((name & MOVES) != 0) {
                mover = name == B ? BLACK : WHITE;
                moved = pointIn(from, upTo);
                good = good && (moved != NONE || from == upTo);
            } else if (name == SZ) {
                good = good && takeSize(numberIn(from, upTo));
            } else {
                boolean minus = tape.byteAt(from) == '-';
                good = good && takeKomi(numberIn(minus ? from + 1 : from, upTo), minus);
            }
            if (!good) {
                fail(BAD_VALUE, opening);
            }
        }

        /** Where the value's ] is; the tape's end or behind it if there is none. */
        private int closingBehind(int opening) {
            int closing = opening + 1;
            while (closing < tape.length && tape.byteAt(closing) != ']') {
                closing += tape.byteAt(closing) == '\\' ? 2 : 1;
            }
            return closing;
        }

        private boolean takeSize(int size) {
            if (!isSize(size)) {
                return false;
            }
            tree.size = size;
            return true;
        }

        private boolean takeKomi(int komi, boolean minus) {
            if (komi == NONE || !isKomi(komi)) {
                return false;
            }
            tree.komi = minus ? -komi : komi;
            return true;
        }

        private boolean takeSetting(int name, int point) {
            if (point == NONE || pairAt(settings, 0, point) != 0) {
                return false;
            }
            int content = name == AB ? BLACK : name == AW ? WHITE : SET_EMPTY;
            int word = point >> 5;
            if (word >= 0 && word < WORDS) {
                settings[word] |= (long) content << (2 * (point & 31));
            }
            return true;
        }

        /** A NUMBER, or NONE if it is none. */
        private int numberIn(int from, int upTo) {
            if (upTo - from < 1 || upTo - from > 3) {
                return NONE;
            }
            int number = 0;
            for (int i = from; i < upTo; i++) {
                int digit = tape.byteAt(i) - '0';
                if (digit < 0 || digit > 9) {
                    return NONE;
                }
                number = 10 * number + digit;
            }
            return number;
        }

        /** A POINT on the board, or NONE. */
        private int pointIn(int from, int upTo) {
            if (upTo - from != 2) {
                return NONE;
            }
            int column = tape.byteAt(from) - 'a';
            int row = tape.byteAt(from + 1) - 'a';
            if (column < 0 || column >= tree.size || row < 0 || row >= tree.size) {
                return NONE;
            }
            return row * tree.size + column;
        }

        private void layBoardBehind() {
            board.shape(tree.size);
            if (tree.has(behind)) {
                board.load(tree.boards, behind * WORDS);
            }
        }

        private void settleMove() {
            layBoardBehind();
            if (moved != NONE && tree.tryPlay(board, behind, moved, mover, koRule) != LET) {
                fail(BAD_PLAY, nodeAt);
                return;
            }
            behind = tree.addMove(behind, mover, moved, board);
        }

        private void settleSets() {
            layBoardBehind();
            for (int p = 0; p < board.points; p++) {
                int content = pairAt(settings, 0, p);
                if (content != 0) {
                    board.lay(p, content == SET_EMPTY ? EMPTY : content);
                }
            }
            if (!board.allBreathe()) {
                fail(BAD_SET, nodeAt);
                return;
            }
            behind = tree.addSets(behind, turnBehindSets(), board);
            tree.copySettings(behind, settings);
        }

        private int turnBehindSets() {
            if (tree.has(behind)) {
                return tree.turnAt(behind);
            }
            return (told & (AB | AW)) == AB ? WHITE : BLACK;
        }
    }

    /** Writes a tree as a text. */
    private static final class Writer {
        private final Bytes out;

        private Writer(Bytes out) {
            this.out = out;
        }

        private void writeGame(Tree tree) {
            out.length = 0;
            out.addByte('(');
            int node = 0;
            for (int i = 0; i < MOST_NODES && tree.has(node); i++) {
                writeNode(tree, node);
                node = nextToWrite(tree, node);
            }
            out.addByte(')');
        }

        /** The node behind this one along the text, with the brackets between them; NONE behind the last. */
        private int nextToWrite(Tree tree, int node) {
            if (tree.children[node] > 0) {
                if (tree.children[node] > 1) {
                    out.addByte('(');
                }
                return tree.firstChild[node];
            }
            int leaving = node;
            for (int i = 0; i < MOST_NODES && tree.has(tree.parentOf(leaving)); i++) {
                int parent = tree.parent[leaving];
                if (tree.children[parent] > 1) {
                    out.addByte(')');
                }
                if (tree.has(tree.nextChild[leaving])) {
                    out.addByte('(');
                    return tree.nextChild[leaving];
                }
                leaving = parent;
            }
            return NONE;
        }

        private void writeNode(Tree tree, int node) {
            out.addByte(';');
            if (node == 0) {
                writeHead(tree);
            }
            if (tree.kind[node] == SETS) {
                writeSetting(tree, node, BLACK, "AB");
                writeSetting(tree, node, WHITE, "AW");
                writeSetting(tree, node, SET_EMPTY, "AE");
                return;
            }
            out.addByte(tree.colour[node] == BLACK ? 'B' : 'W');
            writePoint(tree, tree.point[node]);
        }

        private void writeHead(Tree tree) {
            out.addText("SZ");
            writeNumber(tree.size);
            if (tree.komi != 0) {
                out.addText("KM");
                writeNumber(tree.komi);
            }
        }

        private void writeNumber(int number) {
            out.addByte('[');
            if (number < 0) {
                out.addByte('-');
            }
            int rest = Math.abs(number);
            if (rest >= 100) {
                out.addByte('0' + rest / 100 % 10);
            }
            if (rest >= 10) {
                out.addByte('0' + rest / 10 % 10);
            }
            out.addByte('0' + rest % 10);
            out.addByte(']');
        }

        private void writeSetting(Tree tree, int node, int content, String name) {
            boolean named = false;
            for (int p = 0; p < tree.size * tree.size; p++) {
                if (pairAt(tree.settings, node * WORDS, p) == content) {
                    if (!named) {
                        out.addText(name);
                        named = true;
                    }
                    writePoint(tree, p);
                }
            }
        }

        private void writePoint(Tree tree, int point) {
            out.addByte('[');
            if (point != NONE && tree.size > 0) {
                out.addByte('a' + point % tree.size);
                out.addByte('a' + point / tree.size);
            }
            out.addByte(']');
        }
    }

    /** Regions of a colour, and which of its chains live by Benson. Chains and regions are bits of a long. */
    private static final class Life {
        /** No board of 81 points has more than 41 parts that do not touch. */
        private static final int MOST_PARTS = 64;

        private final Board board;
        private final int[] chainOf = new int[MOST_POINTS];
        private final int[] regionOf = new int[MOST_POINTS];
        private final int[] least = new int[MOST_PARTS];
        private final int[] total = new int[MOST_PARTS];
        private final int[] empty = new int[MOST_PARTS];
        /** Of a region: the chains that it is vital to, and those that it touches. */
        private final long[] vitalTo = new long[MOST_PARTS];
        private final long[] touches = new long[MOST_PARTS];
        private int chains = 0;
        private int regions = 0;

        private Life(Board board) {
            this.board = board;
        }

        private int tellRegion(int colour, int point, int what) {
            survey(colour);
            int region = board.has(point) ? regionOf[point] : NONE;
            if (region < 0 || region >= regions || region >= MOST_PARTS) {
                return NONE;
            }
            switch (what) {
                case 0:
                    return least[region];
                case 1:
                    return total[region];
                case 2:
                    return empty[region];
                case 3:
                    return Long.bitCount(vitalTo[region]);
                default:
                    return NONE;
            }
        }

        private boolean lives(int point) {
            if (!board.hasStone(point)) {
                return false;
            }
            survey(board.contentOf(point));
            return (livingChains() >>> chainOf[point] & 1L) != 0L;
        }

        private void survey(int colour) {
            numberChains(colour);
            int others = 7 & ~(1 << colour);
            int earlier = board.gathering;
            regions = 0;
            Arrays.fill(regionOf, NONE);
            for (int p = 0; p < board.points && regions < MOST_PARTS; p++) {
                if (board.contentOf(p) != colour && !board.gatheredSince(p, earlier)) {
                    board.gather(p, others);
                    measureRegion(regions);
                    regions++;
                }
            }
        }

        private void numberChains(int colour) {
            int earlier = board.gathering;
            chains = 0;
            Arrays.fill(chainOf, NONE);
            for (int p = 0; p < board.points && chains < MOST_PARTS; p++) {
                if (board.contentOf(p) == colour && !board.gatheredSince(p, earlier)) {
                    board.gatherChain(p);
                    for (int i = 0; i < board.gathered && i < MOST_POINTS; i++) {
                        chainOf[board.group[i]] = chains;
                    }
                    chains++;
                }
            }
        }

        private void measureRegion(int region) {
            least[region] = board.leastGathered();
            total[region] = board.gathered;
            empty[region] = 0;
            touches[region] = 0L;
            long vital = -1L;
            for (int i = 0; i < board.gathered && i < MOST_POINTS; i++) {
                int point = board.group[i];
                long touched = chainsBeside(point);
                regionOf[point] = region;
                touches[region] |= touched;
                if (board.contentOf(point) == EMPTY) {
                    empty[region]++;
                    vital &= touched;
                }
            }
            vitalTo[region] = empty[region] > 0 ? vital : 0L;
        }

        private long chainsBeside(int point) {
            long touched = 0L;
            for (int direction = 0; direction < 4; direction++) {
                int other = board.neighbour(point, direction);
                if (other != NONE && chainOf[other] != NONE) {
                    touched |= 1L << chainOf[other];
                }
            }
            return touched;
        }

        private long livingChains() {
            long chainsLeft = chains >= MOST_PARTS ? -1L : (1L << chains) - 1L;
            long regionsLeft = regions >= MOST_PARTS ? -1L : (1L << regions) - 1L;
            for (int round = 0; round <= 2 * MOST_PARTS; round++) {
                long chainsNow = chainsLeft & chainsWithTwo(regionsLeft);
                long regionsNow = regionsLeft & regionsAmong(chainsNow);
                if (chainsNow == chainsLeft && regionsNow == regionsLeft) {
                    break;
                }
                chainsLeft = chainsNow;
                regionsLeft = regionsNow;
            }
            return chainsLeft;
        }

        /** Chains to which two regions or more of these are vital. */
        private long chainsWithTwo(long regionsLeft) {
            long once = 0L;
            long twice = 0L;
            for (int region = 0; region < regions && region < MOST_PARTS; region++) {
                if ((regionsLeft >>> region & 1L) != 0L) {
                    twice |= once & vitalTo[region];
                    once |= vitalTo[region];
                }
            }
            return twice;
        }

        /** Regions that touch no other chains than these. */
        private long regionsAmong(long chainsLeft) {
            long among = 0L;
            for (int region = 0; region < regions && region < MOST_PARTS; region++) {
                if ((touches[region] & ~chainsLeft) == 0L) {
                    among |= 1L << region;
                }
            }
            return among;
        }
    }

    /**
     * Reads a ladder out. TAKES and SAVED ask one another in turn, so the line that is read is a row of levels: at
     * the even ones the hunter moves, at the odd ones the chain. Rows and a counter stand for the recursion, which
     * could go 600 deep.
     */
    private static final class Ladder {
        private static final int MOST_STEPS = 600;
        private static final int LEVELS = MOST_STEPS + 1;
        /** A round tries a move or leaves a level: twice the steps are never used up. */
        private static final int MOST_ROUNDS = 4 * MOST_STEPS;

        private static final int ESCAPES = 0;
        private static final int TAKEN = 1;
        private static final int UNTOLD = 2;
        private static final int GOES_ON = 3;

        private static final int FAILS = 0;
        private static final int WINS = 1;
        private static final int OPENS = 2;

        private final Board board;
        private final long[] boards = new long[LEVELS * WORDS];
        /** Moves of a level in the order of points, a bit each, and one more that comes behind them all. */
        private final long[] lowMoves = new long[LEVELS];
        private final long[] highMoves = new long[LEVELS];
        private final int[] lastMove = new int[LEVELS];
        private final int[] tried = new int[LEVELS];
        private int stone = 0;
        private int hunted = BLACK;
        private int level = 0;
        private int tries = NONE;
        private int taker = NONE;

        private Ladder(Board board) {
            this.board = board;
        }

        private int readOut(Board start, int point) {
            board.copyOf(start);
            stone = point;
            hunted = start.contentOf(point);
            tries = 0;
            enterLevel(0);
            int answer = GOES_ON;
            for (int round = 0; round < MOST_ROUNDS && answer == GOES_ON; round++) {
                answer = goOn();
            }
            taker = answer == TAKEN ? tried[0] : NONE;
            return answer == GOES_ON ? UNTOLD : answer;
        }

        private int goOn() {
            int move = nextMove();
            if (move == NONE) {
                return leaveBeaten();
            }
            if (tries >= MOST_STEPS) {
                return UNTOLD;
            }
            tries++;
            int result = attempt(move);
            if (result == OPENS) {
                enterLevel(level + 1);
            } else if (result == WINS) {
                return leaveWinning();
            }
            return GOES_ON;
        }

        /** Without a move left, the move that led here has won, and the one ahead of that has failed. */
        private int leaveBeaten() {
            if (level == 0) {
                return ESCAPES;
            }
            level--;
            return leaveWinning();
        }

        private int leaveWinning() {
            if (level == 0) {
                return TAKEN;
            }
            level--;
            return GOES_ON;
        }

        private boolean isHunterLevel() {
            return level % 2 == 0;
        }

        private int attempt(int move) {
            board.load(boards, level * WORDS);
            if (!board.put(move, isHunterLevel() ? otherColour(hunted) : hunted)) {
                return FAILS;
            }
            board.pack();
            if (level > 0 && board.packedAs(boards, (level - 1) * WORDS)) {
                return FAILS;
            }
            if (board.contentOf(stone) != hunted) {
                return WINS;
            }
            board.gatherChain(stone);
            int liberties = board.liberties();
            if (isHunterLevel()) {
                return liberties > 1 ? FAILS : OPENS;
            }
            return liberties > 2 ? WINS : liberties == 2 ? OPENS : FAILS;
        }

        /** The board is as it is at the new level. */
        private void enterLevel(int newLevel) {
            if (newLevel < 0 || newLevel >= LEVELS) {
                return;
            }
            level = newLevel;
            board.store(boards, level * WORDS);
            lowMoves[level] = 0L;
            highMoves[level] = 0L;
            lastMove[level] = NONE;
            tried[level] = NONE;
            board.gatherChain(stone);
            if (isHunterLevel()) {
                addLiberties();
            } else {
                addRescues();
            }
        }

        private void addLiberties() {
            for (int p = 0; p < board.points; p++) {
                if (board.contentOf(p) == EMPTY && board.onRim(p, board.gathering)) {
                    addMove(p);
                }
            }
        }

        /**
         * While the hunter's chains are gathered, their stones stay marked as the rim of the hunted chain: a chain's
         * own rim has none of its colour.
         */
        private void addRescues() {
            int chain = board.gathering;
            int own = board.liberties() == 1 ? board.latestLiberty : NONE;
            int hunter = otherColour(hunted);
            for (int p = 0; p < board.points; p++) {
                if (board.contentOf(p) == hunter && board.onRim(p, chain) && !board.gatheredSince(p, chain)) {
                    board.gatherChain(p);
                    if (board.liberties() == 1) {
                        addMove(board.latestLiberty);
                    }
                }
            }
            lastMove[level] = own == NONE || isMove(own) ? NONE : own;
        }

        private void addMove(int point) {
            if (point < 64) {
                lowMoves[level] |= 1L << point;
            } else {
                highMoves[level] |= 1L << (point - 64);
            }
        }

        private boolean isMove(int point) {
            long bits = point < 64 ? lowMoves[level] >>> point : highMoves[level] >>> (point - 64);
            return (bits & 1L) != 0L;
        }

        private int nextMove() {
            for (int p = tried[level] + 1; p < board.points; p++) {
                if (isMove(p)) {
                    tried[level] = p;
                    return p;
                }
            }
            tried[level] = board.points;
            int move = lastMove[level];
            lastMove[level] = NONE;
            return move;
        }
    }

    /** Stones agreed to be dead, and what each colour has on the board without them. */
    private static final class Tally {
        private final Board board;
        private final Board cleared;
        private final boolean[] dead = new boolean[MOST_POINTS];
        private final int[] owned = new int[3];
        private final int[] deadCount = new int[3];

        private Tally(Board board, Board cleared) {
            this.board = board;
            this.cleared = cleared;
        }

        private void forgetDead() {
            for (int p = 0; p < MOST_POINTS; p++) {
                dead[p] = false;
            }
        }

        private boolean isDead(int point) {
            return point >= 0 && point < MOST_POINTS && dead[point];
        }

        private void markGathered(boolean is) {
            for (int i = 0; i < board.gathered && i < MOST_POINTS; i++) {
                dead[board.group[i]] = is;
            }
        }

        private void survey() {
            Arrays.fill(owned, 0);
            Arrays.fill(deadCount, 0);
            cleared.copyOf(board);
            for (int p = 0; p < board.points; p++) {
                if (dead[p] && board.hasStone(p)) {
                    deadCount[board.contentOf(p)]++;
                    cleared.lay(p, EMPTY);
                }
            }
            int earlier = cleared.gathering;
            for (int p = 0; p < cleared.points; p++) {
                if (cleared.contentOf(p) == EMPTY && !cleared.gatheredSince(p, earlier)) {
                    cleared.gather(p, 1 << EMPTY);
                    giveToOwner();
                }
            }
        }

        private void giveToOwner() {
            boolean black = cleared.rimCount[BLACK] > 0;
            boolean white = cleared.rimCount[WHITE] > 0;
            if (black != white) {
                owned[black ? BLACK : WHITE] += cleared.gathered;
            }
        }

        private int standingOf(int colour) {
            return cleared.countOf(colour);
        }

        private int landOf(int colour) {
            return isColour(colour) ? owned[colour] : 0;
        }

        private int deadOf(int colour) {
            return isColour(colour) ? deadCount[colour] : 0;
        }
    }

    /** The clock of one colour. */
    private static final class Clock {
        private int main = 0;
        private int periods = 0;
        private int seconds = 0;
        private boolean lost = false;

        private void wind(int newMain, int newPeriods, int newSeconds) {
            main = newMain;
            periods = newPeriods;
            seconds = newSeconds;
            lost = false;
        }

        private void spend(int t) {
            int over = Math.max(t - main, 0);
            main = Math.max(main - t, 0);
            if (periods == 0 || seconds <= 0) {
                lost = over > 0;
                return;
            }
            periods -= Math.min(periods, over / seconds);
            lost = periods == 0;
        }

        private int tell(int what) {
            switch (what) {
                case 0:
                    return main;
                case 1:
                    return periods;
                case 2:
                    return lost ? 1 : 0;
                default:
                    return NONE;
            }
        }
    }
}
