import java.util.ArrayList;
import java.util.List;
import java.util.Random;
import java.util.function.IntSupplier;

/** Random runs of at most 512 calls, each call compared with the plain model of the document. */
final class ModelTest {
    private static final int RUNS = 4000;
    private static final int CALLS = 512;
    private static final String[] LEVELS = {"a", "b", "ab", "7", "zz9zz0"};

    private final Random random;
    private final GradedTopicBroker broker = new GradedTopicBroker();
    private final Model model = new Model();
    private final List<String> calls = new ArrayList<>();
    private final int mood;
    private int client;

    private ModelTest(int seed) {
        random = new Random(seed);
        mood = random.nextInt(4);
    }

    public static void main(String[] args) {
        for (int seed = 0; seed < RUNS; seed++) {
            new ModelTest(seed).run(seed);
        }
        Check.end();
    }

    private void run(int seed) {
        while (calls.size() < CALLS) {
            if (!step()) {
                System.out.println("seed " + seed + ", the last calls:");
                for (int i = Math.max(0, calls.size() - 60); i < calls.size(); i++) {
                    System.out.println("  " + calls.get(i));
                }
                Check.due("seed " + seed + " follows the model", 0, 1);
                return;
            }
        }
        Check.due("seed " + seed + " follows the model", 1, 1);
    }

    private boolean same(String name, IntSupplier due, IntSupplier got) {
        if (calls.size() >= CALLS) {
            return true;
        }
        String want = Check.outcome(due);
        String have = Check.outcome(got);
        calls.add(name + ": " + have + (want.equals(have) ? "" : " but due is " + want));
        return want.equals(have);
    }

    private int near(int least, int most) {
        int pick = random.nextInt(60);
        if (pick == 0) {
            return least - 1;
        }
        if (pick == 1) {
            return most + 1;
        }
        if (pick == 2) {
            return random.nextBoolean() ? Integer.MIN_VALUE : Integer.MAX_VALUE;
        }
        return least + random.nextInt(most - least + 1);
    }

    private String text(boolean filter) {
        int levels = 1 + random.nextInt(random.nextInt(3) == 0 ? 4 : 2);
        StringBuilder text = new StringBuilder();
        for (int i = 0; i < levels; i++) {
            text.append(i == 0 ? "" : "/");
            int kind = random.nextInt(8);
            if (filter && kind < 2) {
                text.append('+');
            } else if (filter && kind == 2 && i == levels - 1) {
                text.append('#');
            } else {
                text.append(LEVELS[random.nextInt(random.nextInt(3) == 0 ? 5 : 2)]);
            }
        }
        if (random.nextInt(40) == 0) {
            int at = random.nextInt(text.length() + 1);
            String more = random.nextBoolean() ? "/+#" : "A!~zzzzzzz";
            text.insert(at, random.nextInt(3) == 0 ? more : more.substring(0, 1));
        }
        if (random.nextInt(60) == 0) {
            text.setLength(random.nextInt(text.length() + 1));
        }
        return text.toString();
    }

    private boolean write(boolean filter) {
        boolean same = true;
        for (int part : Check.packed(text(filter))) {
            same &= append(part);
        }
        return same;
    }

    private boolean append(int part) {
        return same("append(" + part + ")", () -> model.append(part), () -> broker.append(part));
    }

    private boolean step() {
        client = near(0, random.nextBoolean() ? 5 : 2);
        switch (random.nextInt(mood == 0 ? 10 : 9)) {
            case 0:
            case 1:
                return stepSession();
            case 2:
                return stepSubscription();
            case 3:
            case 4:
                return stepPublish();
            case 5:
                return stepAnswers();
            case 6:
                return stepNetwork();
            case 7:
                return stepLook();
            case 8:
                return random.nextInt(3) == 0 ? stepTime() : stepPublish();
            default:
                return random.nextInt(4) == 0 ? stepOdd() : stepLook();
        }
    }

    private boolean stepSession() {
        int c = client;
        int pick = random.nextInt(10);
        if (pick < 4) {
            boolean clean = random.nextInt(4) == 0;
            if (c >= 0 && c < 6 && random.nextInt(3) > 0 && model.sessionState(c) > 1) {
                return stepPublish();
            }
            return same("connect(" + c + ", " + clean + ")", () -> model.connect(c, clean),
                    () -> broker.connect(c, clean));
        }
        if (pick == 4) {
            return same("disconnect(" + c + ")", () -> model.disconnect(c), () -> broker.disconnect(c));
        }
        if (pick == 5) {
            return same("breakConnection(" + c + ")", () -> model.breakConnection(c), () -> broker.breakConnection(c));
        }
        if (pick == 6) {
            int grade = near(0, 2);
            boolean retain = random.nextBoolean();
            int payload = random.nextInt(4) == 0 ? 0 : near(0, 9999);
            return write(false) && same("setWill(" + c + ", " + grade + ", " + retain + ", " + payload + ")",
                    () -> model.setWill(c, grade, retain, payload), () -> broker.setWill(c, grade, retain, payload));
        }
        return same("sessionState(" + c + ")", () -> model.sessionState(c), () -> broker.sessionState(c));
    }

    private boolean stepSubscription() {
        int c = client;
        int group = random.nextBoolean() ? 0 : near(0, 3);
        int pick = random.nextInt(12);
        if (pick < 7) {
            int grade = near(0, 2);
            int options = random.nextBoolean() ? random.nextInt(2) : near(0, 7);
            return write(true) && same("subscribe(" + c + ", " + grade + ", " + group + ", " + options + ")",
                    () -> model.subscribe(c, grade, group, options), () -> broker.subscribe(c, grade, group, options));
        }
        if (pick < 9) {
            return write(true) && same("unsubscribe(" + c + ", " + group + ")", () -> model.unsubscribe(c, group),
                    () -> broker.unsubscribe(c, group));
        }
        if (pick == 9) {
            return write(true) && same("shareSize(" + group + ")", () -> model.shareSize(group),
                    () -> broker.shareSize(group));
        }
        if (pick == 10) {
            int index = near(0, 2);
            return write(true) && same("shareMember(" + group + ", " + index + ")",
                    () -> model.shareMember(group, index), () -> broker.shareMember(group, index));
        }
        int first = near(0, 5);
        int second = near(0, 5);
        return same("relation(" + c + ", " + first + ", " + second + ")", () -> model.relation(c, first, second),
                () -> broker.relation(c, first, second));
    }

    private boolean stepPublish() {
        int c = client;
        int grade = near(0, 2);
        int identifier = near(1, random.nextBoolean() ? 3 : 50);
        boolean retain = random.nextInt(3) == 0;
        int payload = random.nextInt(6) == 0 ? 0 : near(0, 9999);
        return write(false) && same(
                "publish(" + c + ", " + grade + ", " + identifier + ", " + retain + ", " + payload + ")",
                () -> model.publish(c, grade, identifier, retain, payload),
                () -> broker.publish(c, grade, identifier, retain, payload));
    }

    private boolean stepAnswers() {
        int c = client;
        int identifier = near(1, random.nextBoolean() ? 4 : 50);
        if (random.nextInt(5) == 0) {
            return same("release(" + c + ", " + identifier + ")", () -> model.release(c, identifier),
                    () -> broker.release(c, identifier));
        }
        int kind = random.nextInt(20) == 0 ? near(0, 5) : 1 << random.nextInt(3);
        int due = identifier;
        String found = Check.outcome(() -> model.inFlight(c, random.nextInt(3), 0));
        if (found.matches("[0-9]+") && random.nextInt(5) > 0) {
            due = Integer.parseInt(found);
        }
        int asked = due;
        return same("answer(" + c + ", " + kind + ", " + asked + ")", () -> model.answer(c, kind, asked),
                () -> broker.answer(c, kind, asked));
    }

    private boolean stepNetwork() {
        int c = client;
        int pick = random.nextInt(6);
        if (pick < 2 && mood != 1) {
            boolean same = same("receive(" + c + ")", () -> model.receive(c), () -> broker.receive(c));
            for (int i = 0; i < 6 && same; i++) {
                int what = i;
                same = same("packet(" + what + ")", () -> model.packet(what), () -> broker.packet(what));
            }
            int index = near(0, 5);
            return same && same("topicCharacter(" + index + ")", () -> model.topicCharacter(index),
                    () -> broker.topicCharacter(index));
        }
        if (pick == 2 && mood != 1) {
            return same("lose(" + c + ")", () -> model.lose(c), () -> broker.lose(c));
        }
        return same("repeat(" + c + ")", () -> model.repeat(c), () -> broker.repeat(c));
    }

    private boolean stepLook() {
        int c = client;
        int what = near(0, 9);
        int index = near(0, 5);
        switch (random.nextInt(9)) {
            case 0:
                return same("length(" + c + ", " + what + ")", () -> model.length(c, what),
                        () -> broker.length(c, what));
            case 1:
            case 2:
                return same("inFlight(" + c + ", " + index + ", " + what + ")", () -> model.inFlight(c, index, what),
                        () -> broker.inFlight(c, index, what));
            case 3:
                return same("subscription(" + c + ", " + index + ", " + what + ")",
                        () -> model.subscription(c, index, what), () -> broker.subscription(c, index, what));
            case 4:
                return same("retained(" + index + ", " + what + ")", () -> model.retained(index, what),
                        () -> broker.retained(index, what))
                        && same("retainedCount()", () -> model.retainedCount(), () -> broker.retainedCount());
            case 5:
                return same("total(" + what + ")", () -> model.total(what), () -> broker.total(what));
            case 6:
                return same("load(" + c + ")", () -> model.load(c), () -> broker.load(c));
            case 7:
                return write(false) && same("audience(" + c + ")", () -> model.audience(c), () -> broker.audience(c))
                        && same("errorPosition()", () -> model.errorPosition(), () -> broker.errorPosition());
            default:
                return write(false) && same("published()", () -> model.published(), () -> broker.published());
        }
    }

    private boolean stepTime() {
        int pick = random.nextInt(8);
        if (pick < 4) {
            int ticks = random.nextInt(4) == 0 ? near(1, 100) : 1 + random.nextInt(3);
            return same("advance(" + ticks + ")", () -> model.advance(ticks), () -> broker.advance(ticks));
        }
        if (pick < 6) {
            int option = near(0, 3);
            int value = random.nextInt(10) == 0 ? near(0, 100) : random.nextInt(6);
            return same("setOption(" + option + ", " + value + ")", () -> model.setOption(option, value),
                    () -> broker.setOption(option, value));
        }
        if (pick == 6) {
            return same("save()", () -> model.save(), () -> broker.save());
        }
        return random.nextInt(3) > 0 || same("restore()", () -> model.restore(), () -> broker.restore());
    }

    private boolean stepOdd() {
        return append(random.nextInt())
                && same("errorPosition()", () -> model.errorPosition(), () -> broker.errorPosition());
    }
}
