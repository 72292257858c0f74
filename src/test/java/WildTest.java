import java.util.Random;
import java.util.function.IntSupplier;

/** No call throws but what the document names for it, for any arguments, also after the 512th call. */
final class WildTest {
    private static final int[] FAR = {Integer.MIN_VALUE, Integer.MAX_VALUE, -1, 0, 7, 1 << 16, 255};
    private static final String NONE = "";
    private static final String BOUNDS = "IndexOutOfBoundsException";
    private static final String ARGUMENT = "IllegalArgumentException";
    private static final String STATE = "IllegalStateException";

    private final Random random;
    private final GradedTopicBroker b = new GradedTopicBroker();

    private WildTest(int seed) {
        random = new Random(seed);
    }

    public static void main(String[] args) {
        for (int seed = 0; seed < 150; seed++) {
            new WildTest(seed).run();
        }
        Check.end();
    }

    private void run() {
        for (int i = 0; i < 3000; i++) {
            if (random.nextInt(3) > 0) {
                writeText();
            }
            call(random.nextInt(32));
        }
    }

    private void writeText() {
        int length = 1 + random.nextInt(4);
        StringBuilder text = new StringBuilder();
        for (int i = 0; i < length; i++) {
            text.append("abc0/+#z".charAt(random.nextInt(8)));
        }
        allow("append", () -> Check.write(b, text.toString()).append(0), STATE);
    }

    private int any(int most) {
        return random.nextInt(25) == 0 ? FAR[random.nextInt(FAR.length)] : random.nextInt(most + 1);
    }

    private void allow(String name, IntSupplier call, String... throwing) {
        String outcome = Check.outcome(call);
        boolean good = outcome.matches("-?[0-9]+");
        for (String name2 : throwing) {
            good |= name2.equals(outcome);
        }
        if (!good) {
            System.out.println(name + " threw " + outcome);
        }
        Check.due(name + " keeps to the document", good ? 1 : 0, 1);
    }

    private void call(int which) {
        int c = any(5);
        int i = any(5);
        int k = any(3);
        int m = any(50);
        int p = any(9999);
        boolean flag = random.nextBoolean();
        switch (which) {
            case 0 -> allow("append", () -> b.append(random.nextInt(4) == 0 ? p : 0x61000000), ARGUMENT, STATE);
            case 1 -> allow("errorPosition", b::errorPosition, NONE);
            case 2 -> allow("setOption", () -> b.setOption(k, i), BOUNDS, ARGUMENT);
            case 3, 4 -> allow("connect", () -> b.connect(c, flag), BOUNDS);
            case 5 -> allow("disconnect", () -> b.disconnect(c), BOUNDS, STATE);
            case 6 -> allow("breakConnection", () -> b.breakConnection(c), BOUNDS, STATE);
            case 7 -> allow("setWill", () -> b.setWill(c, k, flag, p), BOUNDS, ARGUMENT, STATE);
            case 8 -> allow("sessionState", () -> b.sessionState(c), BOUNDS);
            case 9, 10 -> allow("subscribe", () -> b.subscribe(c, k, i & 3, i), BOUNDS, ARGUMENT, STATE);
            case 11 -> allow("unsubscribe", () -> b.unsubscribe(c, k), BOUNDS, ARGUMENT, STATE);
            case 12 -> allow("subscription", () -> b.subscription(c, i, k), BOUNDS, ARGUMENT);
            case 13 -> allow("relation", () -> b.relation(c, i, k), BOUNDS);
            case 14 -> allow("shareSize", () -> b.shareSize(k), ARGUMENT);
            case 15 -> allow("shareMember", () -> b.shareMember(k, i), ARGUMENT, BOUNDS);
            case 16, 17 -> allow("publish", () -> b.publish(c, k, m, flag, p), BOUNDS, ARGUMENT, STATE);
            case 18 -> allow("release", () -> b.release(c, m), BOUNDS, ARGUMENT, STATE);
            case 19 -> allow("answer", () -> b.answer(c, i, m), BOUNDS, ARGUMENT, STATE);
            case 20 -> allow("audience", () -> b.audience(c), BOUNDS, ARGUMENT);
            case 21 -> allow("receive", () -> b.receive(c), BOUNDS, STATE);
            case 22 -> allow("packet", () -> b.packet(i), ARGUMENT, STATE);
            case 23 -> allow("topicCharacter", () -> b.topicCharacter(i), STATE, BOUNDS);
            case 24 -> allow("lose", () -> b.lose(c), BOUNDS, STATE);
            case 25 -> allow("repeat", () -> b.repeat(c), BOUNDS, STATE);
            case 26 -> allow("length", () -> b.length(c, i), BOUNDS, ARGUMENT);
            case 27 -> allow("inFlight", () -> b.inFlight(c, k, i), BOUNDS, ARGUMENT);
            case 28 -> allow("advance", () -> b.advance(i), ARGUMENT);
            case 29 -> allow("load", () -> b.load(c) + b.retainedCount(), BOUNDS);
            case 30 -> allow("retained", () -> b.retained(i, k), BOUNDS, ARGUMENT);
            default -> callRest(k, m);
        }
    }

    private void callRest(int k, int m) {
        allow("published", b::published, ARGUMENT);
        allow("total", () -> b.total(m), ARGUMENT);
        if (k == 0) {
            allow("save", b::save, NONE);
        }
        if (k == 1) {
            allow("restore", b::restore, STATE);
        }
    }
}
