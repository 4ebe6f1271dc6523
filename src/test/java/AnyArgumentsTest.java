import java.util.Random;

/** No call may ever throw or fail to end, for any arguments in any state: calls drawn from fixed seeds, wild ones too. */
public final class AnyArgumentsTest {
    private static final int[] WILD = {Integer.MIN_VALUE, Integer.MIN_VALUE + 1, -100001, -82, -3, -2, -1, 0, 1, 2, 3, 8,
        9, 10, 63, 64, 79, 80, 81, 82, 249, 250, 251, 600, 1499, 1500, 1501, 100000, 100001, Integer.MAX_VALUE - 1,
        Integer.MAX_VALUE};
    private static final String BYTES = "((((;;;;;))))BWAABAEWSZKM[[[]]]aabbcc\\ \n159-";

    private final Random random;
    private final StoneRoom room = new StoneRoom();

    private AnyArgumentsTest(long seed) {
        random = new Random(seed);
    }

    public static void main(String[] args) {
        int calls = 0;
        for (int seed = 0; seed < 300; seed++) {
            AnyArgumentsTest test = new AnyArgumentsTest(seed);
            for (int i = 0; i < 600; i++) {
                test.call(test.random.nextInt(27));
                calls++;
            }
        }
        System.out.println("AnyArgumentsTest: " + calls + " calls, none threw");
    }

    private int any() {
        int kind = random.nextInt(8);
        return kind == 0 ? random.nextInt() : kind == 1 ? WILD[random.nextInt(WILD.length)] : random.nextInt(12) - 1;
    }

    private int word() {
        int word = 0;
        for (int i = 0; i < 4; i++) {
            int b = random.nextInt(50) == 0 ? random.nextInt(256) : BYTES.charAt(random.nextInt(BYTES.length()));
            word = word << 8 | b;
        }
        return word;
    }

    private void call(int which) {
        switch (which) {
            case 0 -> room.begin(random.nextInt(40) == 0 ? any() : 2, any());
            case 1 -> room.ko(any());
            case 2 -> room.feed(word(), word(), word(), word(), word());
            case 3 -> room.end(any());
            case 4 -> Check.read(room, random.nextBoolean() ? "" : "(;SZ[4];AB[aa][bb]AW[ba];;W[dd])");
            case 5 -> room.place();
            case 6 -> room.write();
            case 7 -> room.octet(any());
            case 8 -> room.let(any());
            case 9, 10, 11, 12 -> room.play(random.nextInt(20));
            case 13 -> room.back(any());
            case 14 -> room.on(any());
            case 15 -> room.to(any());
            case 16 -> room.node(any(), any());
            case 17 -> room.at(any());
            case 18 -> room.chain(any(), any());
            case 19 -> room.liberty(any(), any());
            case 20 -> room.region(any(), any(), any());
            case 21 -> room.ladder(any());
            case 22 -> room.steps(any());
            case 23 -> room.dead(any(), random.nextBoolean());
            case 24 -> room.score(any(), any() + room.ahead(any()));
            case 25 -> room.clocks(any(), any(), any());
            default -> room.clock(any(), any() + room.time(any(), any()) + room.count(any()));
        }
    }
}
