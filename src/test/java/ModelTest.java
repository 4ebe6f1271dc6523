import java.util.Random;

/** Holds StoneRoom against the Model over many runs of calls drawn from fixed seeds (all promises). */
public final class ModelTest {
    private static final int RUNS = 150;
    private static final String[] NAMES = {"B", "W", "AB", "AW", "AE", "SZ", "KM", "C", "XX", "BB"};

    private final Random random;
    private final StoneRoom room = new StoneRoom();
    private final Model model = new Model();
    private final String run;
    private boolean failed = false;

    private ModelTest(long seed) {
        random = new Random(seed);
        run = "seed " + seed + ": ";
    }

    public static void main(String[] args) {
        // By hand, more runs can be asked for: java ModelTest runs=5000
        int runs = args.length > 0 && args[0].startsWith("runs=") ? Integer.parseInt(args[0].substring(5)) : RUNS;
        for (int seed = 1; seed <= runs; seed++) {
            new ModelTest(seed).go();
        }
        System.out.println("ModelTest: " + runs + " runs as the model");
    }

    private void go() {
        int komi = random.nextInt(5) - 2;
        // Every third run fills a tiny board again and again, where kos and cycles come of themselves.
        boolean tiny = random.nextInt(3) == 0;
        int size = tiny ? 3 + random.nextInt(2) : 3 + random.nextInt(random.nextInt(3) == 0 ? 7 : 3);
        same("begin", room.begin(size, komi), model.begin(size, komi));
        int calls = tiny ? 300 : 20 + random.nextInt(120);
        for (int i = 0; i < calls; i++) {
            if (tiny && random.nextInt(60) > 0) {
                playOn();
            } else {
                change();
            }
            if (random.nextInt(tiny ? 40 : 8) == 0) {
                compareAll();
            } else if (!tiny || random.nextInt(4) == 0) {
                compareSome();
            }
        }
        compareAll();
        compareOut();
        // A wrong answer spoils all that follow, so the first run that has one ends the test.
        if (failed) {
            System.exit(1);
        }
    }

    /** A play that is no pass, if there is one: passes would soon end each game. */
    private void playOn() {
        int points = model.size * model.size;
        int first = random.nextInt(points);
        for (int i = 0; i < points; i++) {
            int p = (first + i) % points;
            int status = room.play(p);
            same("play(" + p + ")", status, model.play(p));
            if (status == 0) {
                return;
            }
        }
        int k = 1 + random.nextInt(6);
        same("back(" + k + ")", room.back(k), model.back(k));
    }

    private void same(String call, int got, int want) {
        if (got != want && !failed) {
            failed = true;
            System.out.println(run + call + " answered " + got + ", the model " + want);
            System.out.println("board " + model.place.board + " size " + model.size + " ko " + model.rule);
        }
    }

    private void same(String call, boolean got, boolean want) {
        same(call, got ? 1 : 0, want ? 1 : 0);
    }

    private int anyPoint() {
        return random.nextInt(model.size * model.size + 3) - 2;
    }

    private void change() {
        int dice = random.nextInt(100);
        if (dice < 62) {
            int p = random.nextInt(14) == 0 ? -1 : anyPoint();
            same("play(" + p + ")", room.play(p), model.play(p));
        } else if (dice < 70) {
            int k = random.nextInt(6) - 1;
            same("back(" + k + ")", room.back(k), model.back(k));
        } else if (dice < 74) {
            int k = random.nextInt(4) - 1;
            same("on(" + k + ")", room.on(k), model.on(k));
        } else if (dice < 77) {
            int k = random.nextInt(model.nodes.size() + 2) - 1;
            same("to(" + k + ")", room.to(k), model.to(k));
        } else if (dice < 83) {
            int p = anyPoint();
            boolean is = random.nextInt(3) > 0;
            same("dead(" + p + ")", room.dead(p, is), model.dead(p, is));
        } else if (dice < 86) {
            int k = random.nextInt(5) - 1;
            same("ko(" + k + ")", room.ko(k), model.ko(k));
        } else if (dice < 92) {
            readSome();
        } else if (dice < 97) {
            clockSome();
        } else {
            compareOut();
        }
    }

    private void clockSome() {
        if (random.nextInt(3) == 0) {
            int m = random.nextInt(40) - 1;
            int k = random.nextInt(5) - 1;
            int s = random.nextInt(12) - 1;
            same("clocks", room.clocks(m, k, s), model.clocks(m, k, s));
        }
        int colour = random.nextInt(4);
        int t = random.nextInt(30) - 1;
        same("clock(" + colour + ", " + t + ")", room.clock(colour, t), model.clock(colour, t));
    }

    private void readSome() {
        String text = random.nextInt(3) == 0 ? model.write() > 0 ? model.out : "" : drawTree(0, true, drawSize());
        int faults = random.nextInt(3) == 0 ? random.nextInt(3) : 0;
        for (int i = 0; i < faults && text.length() > 0; i++) {
            text = mutated(text);
        }
        for (int from = 0; from < text.length(); from += 20) {
            int[] w = new int[5];
            for (int i = 0; i < 5; i++) {
                w[i] = Check.word(text, from + 4 * i);
            }
            same("feed", room.feed(w[0], w[1], w[2], w[3], w[4]), model.feed(w[0], w[1], w[2], w[3], w[4]));
        }
        int n = random.nextInt(5) == 0 ? random.nextInt(text.length() + 30) - 1 : text.length();
        same("end(" + n + ")", room.end(n), model.end(n));
        same("count(8)", room.count(8), model.count(8));
        same("read " + text, room.read(), model.read());
        same("place " + text, room.place(), model.place());
    }

    private String mutated(String text) {
        int at = random.nextInt(text.length());
        String bytes = "()[];\\ \nABWEaac159-x" + (char) 200;
        char c = bytes.charAt(random.nextInt(bytes.length()));
        int kind = random.nextInt(3);
        return text.substring(0, at) + (kind == 0 ? "" : "" + c) + text.substring(kind == 1 ? at : at + 1);
    }

    private int drawSize() {
        return random.nextInt(12) == 0 ? random.nextInt(12) : random.nextInt(3) == 0 ? 9 : 3 + random.nextInt(4);
    }

    private String blank() {
        return random.nextInt(12) == 0 ? " \n\r".substring(random.nextInt(3)) : "";
    }

    private String drawTree(int depth, boolean root, int size) {
        StringBuilder text = new StringBuilder(blank()).append("(").append(blank());
        int nodes = 1 + random.nextInt(depth == 0 ? 8 : 5);
        for (int i = 0; i < nodes; i++) {
            text.append(drawNode(root && i == 0, size, i));
        }
        if (depth < 4 && random.nextInt(3) > 0) {
            int trees = random.nextInt(4);
            for (int i = 0; i < trees; i++) {
                text.append(drawTree(depth + 1, false, size));
            }
        }
        return text.append(")").append(blank()).toString();
    }

    private String drawNode(boolean root, int size, int i) {
        StringBuilder node = new StringBuilder(";").append(blank());
        if (root && (size != 9 || random.nextInt(2) == 0)) {
            node.append("SZ").append(blank()).append("[").append(size).append("]");
        }
        if (root && random.nextInt(3) == 0) {
            node.append("KM[").append(random.nextInt(420) - 210).append("]");
        }
        int kind = random.nextInt(10);
        if (root ? kind < 6 : kind == 0) {
            node.append(drawSets("AB", size)).append(drawSets("AW", size));
            if (random.nextInt(3) == 0) {
                node.append(drawSets("AE", size));
            }
        } else if (kind < 9) {
            String point = random.nextInt(8) == 0 ? "" : drawPoint(size);
            node.append((i % 2 == 0) == (random.nextInt(9) > 0) ? "B" : "W").append("[").append(point).append("]");
        }
        if (random.nextInt(60) == 0) {
            node.append(NAMES[random.nextInt(NAMES.length)]).append("[").append(drawPoint(size)).append("]");
        }
        if (random.nextInt(15) == 0) {
            node.append("C[x\\]y;(]").append(blank()).append("[]");
        }
        return node.append(blank()).toString();
    }

    private String drawPoint(int size) {
        int n = Math.max(1, random.nextInt(150) == 0 ? size + 1 : size);
        return "" + (char) ('a' + random.nextInt(n)) + (char) ('a' + random.nextInt(n));
    }

    private String drawSets(String name, int size) {
        StringBuilder sets = new StringBuilder();
        int points = random.nextInt(size > 4 ? 9 : 3);
        int at = name.equals("AW") ? 1 : name.equals("AE") ? 2 : 0;
        for (int i = 0; i < points && size > 2; i++) {
            // Each name has points of its own and they go upward, so that few are set twice.
            at += 3 * (1 + random.nextInt(3));
            int p = random.nextInt(80) == 0 ? 0 : at;
            if (p < size * size) {
                sets.append("[").append((char) ('a' + p % size)).append((char) ('a' + p / size)).append("]");
            }
        }
        return sets.length() == 0 ? "" : name + sets;
    }

    private void compareSome() {
        int p = anyPoint();
        same("let(" + p + ")", room.let(p), model.let(p));
        comparePoint(p);
        for (int what = -1; what <= 10; what++) {
            same("count(" + what + ")", room.count(what), model.count(what));
        }
        compareScores();
    }

    private void comparePoint(int p) {
        same("at(" + p + ")", room.at(p), model.at(p));
        for (int what = -1; what <= 5; what++) {
            same("chain(" + p + ", " + what + ")", room.chain(p, what), model.chain(p, what));
            for (int colour = 0; colour <= 3; colour++) {
                same("region(" + colour + ", " + p + ", " + what + ")", room.region(colour, p, what),
                    model.region(colour, p, what));
            }
        }
        for (int i = -1; i <= 6; i++) {
            same("liberty(" + p + ", " + i + ")", room.liberty(p, i), model.liberty(p, i));
        }
        same("ladder(" + p + ")", room.ladder(p), model.ladder(p));
        for (int what = -1; what <= 2; what++) {
            same("steps(" + what + ") of " + p, room.steps(what), model.steps(what));
        }
    }

    private void compareScores() {
        for (int what = -1; what <= 4; what++) {
            for (int colour = 0; colour <= 3; colour++) {
                int want = what < 0 || what > 3 ? -1 : model.score(colour, what);
                same("score(" + colour + ", " + what + ")", room.score(colour, what), want);
                same("time(" + colour + ", " + what + ")", room.time(colour, what), model.time(colour, what));
            }
            same("ahead(" + what + ")", room.ahead(what), model.ahead(what));
        }
    }

    private void compareAll() {
        for (int p = -2; p <= model.size * model.size; p++) {
            same("let(" + p + ")", room.let(p), model.let(p));
            comparePoint(p);
        }
        for (int k = -1; k <= model.nodes.size(); k++) {
            for (int what = -1; what <= 9; what++) {
                same("node(" + k + ", " + what + ")", room.node(k, what), model.node(k, what));
            }
        }
        compareScores();
    }

    private void compareOut() {
        int bytes = model.write();
        same("write()", room.write(), bytes);
        for (int i = -1; i <= bytes; i++) {
            same("octet(" + i + ")", room.octet(i), model.octet(i));
        }
    }
}
