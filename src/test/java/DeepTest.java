import java.util.List;
import java.util.Random;
import java.util.function.IntSupplier;

/**
 * Random runs in a narrow world, compared call by call with the model, so that states which ModelTest seldom reaches
 * occur often: identifiers that wrap around past messages in flight, full queues, full pending rows, shares with many
 * members, all six subscriptions, all eight retained messages. The test counts these states and wants each of them.
 */
final class DeepTest {
    private static final int RUNS = 2400;
    private static final int CALLS = 512;
    private static final String[] TOPICS = {"a", "b", "a/b", "c", "d", "e", "f", "g", "h", "a/0"};
    private static final String[] FILTERS = {"a", "#", "a/#", "+", "+/b", "a/+", "b", "+/#"};
    private static final String[] STATES = {
        "wrap around", "wrap around past a message in flight", "full queue", "full pending row, policy 0",
        "full pending row, policy 1", "share of four", "six subscriptions", "eight retained", "will to its own client",
        "resumed with pending", "sent again with the retained flag", "expired share member", "restored connection"
    };
    private static final int[] reached = new int[STATES.length];

    private final Random random;
    private final GradedTopicBroker broker = new GradedTopicBroker();
    private final Model model = new Model();
    private final StringBuilder log = new StringBuilder();
    private final int theme;
    private final int clients;
    private int calls;
    private boolean good = true;

    private DeepTest(int seed) {
        random = new Random(7919L * seed + 5);
        theme = seed % 4;
        clients = theme == 0 ? 2 : theme == 1 ? 6 : 3;
    }

    public static void main(String[] args) {
        for (int seed = 0; seed < RUNS; seed++) {
            new DeepTest(seed).run(seed);
        }
        for (int i = 0; i < STATES.length; i++) {
            Check.due("reached: " + STATES[i], reached[i] >= 20 ? 1 : 0, 1);
        }
        Check.end();
    }

    private void run(int seed) {
        begin();
        while (good && calls < CALLS) {
            step();
            note();
        }
        if (!good) {
            System.out.println("seed " + seed + ":\n" + log);
        }
        Check.due("seed " + seed + " follows the model", good ? 1 : 0, 1);
    }

    private void same(String name, IntSupplier due, IntSupplier got) {
        if (!good || calls >= CALLS) {
            return;
        }
        calls++;
        String want = Check.outcome(due);
        String have = Check.outcome(got);
        log.append(name).append(": ").append(have).append('\n');
        if (!want.equals(have)) {
            log.append("but due is ").append(want).append('\n');
            good = false;
        }
    }

    private void write(String text) {
        for (int part : Check.packed(text)) {
            same("append(" + part + ")", () -> model.append(part), () -> broker.append(part));
        }
    }

    private int any(int limit) {
        return random.nextInt(limit);
    }

    private boolean once(int in) {
        return random.nextInt(in) == 0;
    }

    // ---- the four kinds of runs

    private void begin() {
        for (int i = 0; i < clients; i++) {
            connect(i, theme == 1 && once(4));
        }
        if (theme == 0) {
            option(0, 2 + any(4));
            subscribe(0, "a", 1 + any(2), 0, 0);
        } else {
            option(0, 1 + any(5));
            option(3, any(2));
            option(1, theme == 2 ? 1 + any(3) : once(2) ? any(21) : 0);
            option(2, 1 + any(30));
        }
    }

    private void step() {
        int c = any(clients);
        int pick = any(100);
        if (theme == 0) {
            stepFlight(c, pick);
        } else if (theme == 1) {
            stepShares(c, pick);
        } else if (theme == 2) {
            stepTime(c, pick);
        } else {
            stepSessions(c, pick);
        }
    }

    private void stepFlight(int c, int pick) {
        if (pick < 45) {
            publish(1, "a", once(4) ? 2 : 1, once(40));
        } else if (pick < 94) {
            answer(0);
        } else if (pick < 95) {
            take(c);
        } else if (pick < 97) {
            connect(0, false);
        } else {
            look(0);
        }
    }

    private void stepShares(int c, int pick) {
        if (pick < 25) {
            subscribe(c, FILTERS[any(3)], any(3), any(4), 0);
        } else if (pick < 55) {
            publish(c, TOPICS[any(3)], any(3), once(6));
        } else if (pick < 65) {
            stepConnection(c);
        } else if (pick < 73) {
            answer(c);
        } else if (pick < 78) {
            unsubscribe(c, FILTERS[any(3)], any(4));
        } else if (pick < 82) {
            advance(1 + any(8));
        } else if (pick < 95) {
            member(FILTERS[any(3)], 1 + any(3), any(4));
        } else {
            keep();
        }
    }

    private void stepTime(int c, int pick) {
        if (pick < 15) {
            subscribe(c, FILTERS[any(8)], any(3), 0, any(8));
        } else if (pick < 45) {
            publish(c, TOPICS[any(10)], any(3), once(2));
        } else if (pick < 65) {
            advance(1 + any(3));
            look(c);
        } else if (pick < 72) {
            take(c);
        } else if (pick < 80) {
            answer(c);
        } else if (pick < 84) {
            same("repeat(" + c + ")", () -> model.repeat(c), () -> broker.repeat(c));
        } else if (pick < 88) {
            int value = any(4);
            option(1, value);
        } else if (pick < 92) {
            stepConnection(c);
        } else {
            total(any(10));
            total(8);
        }
    }

    private void stepSessions(int c, int pick) {
        if (pick < 20) {
            stepConnection(c);
        } else if (pick < 35) {
            subscribe(c, FILTERS[any(8)], any(3), once(3) ? 1 + any(3) : 0, 0);
        } else if (pick < 62) {
            publish(c, TOPICS[any(4)], any(3), once(8));
        } else if (pick < 72) {
            answer(c);
        } else if (pick < 78) {
            int identifier = 1 + any(4);
            same("release(" + c + ", " + identifier + ")", () -> model.release(c, identifier),
                    () -> broker.release(c, identifier));
        } else if (pick < 84) {
            take(c);
        } else if (pick < 88) {
            advance(1 + any(3));
        } else if (pick < 92) {
            keep();
        } else if (pick < 94) {
            option(0, 1 + any(5));
        } else {
            look(c);
        }
    }

    // ---- single calls

    private void connect(int c, boolean clean) {
        boolean pending = model.w.sessions[c] != null && !model.w.sessions[c].pending.isEmpty();
        reached[9] += pending && !clean ? 1 : 0;
        same("connect(" + c + ", " + clean + ")", () -> model.connect(c, clean), () -> broker.connect(c, clean));
    }

    private void stepConnection(int c) {
        int pick = any(10);
        if (pick < 4) {
            connect(c, once(4));
        } else if (pick < 6) {
            same("disconnect(" + c + ")", () -> model.disconnect(c), () -> broker.disconnect(c));
        } else if (pick < 8) {
            breakConnection(c);
        } else {
            int grade = any(3);
            boolean retain = once(3);
            int payload = any(3);
            write(TOPICS[any(3)]);
            same("setWill(" + c + ", " + grade + ", " + retain + ", " + payload + ")",
                    () -> model.setWill(c, grade, retain, payload), () -> broker.setWill(c, grade, retain, payload));
        }
    }

    private void breakConnection(int c) {
        Model.Session before = model.w.sessions[c];
        int held = before == null ? 0 : before.pending.size();
        same("breakConnection(" + c + ")", () -> model.breakConnection(c), () -> broker.breakConnection(c));
        Model.Session after = model.w.sessions[c];
        reached[8] += after != null && after.pending.size() > held ? 1 : 0;
    }

    private void subscribe(int c, String filter, int grade, int group, int more) {
        int options = group == 0 ? more : more & 6;
        write(filter);
        same("subscribe(" + c + ", " + grade + ", " + group + ", " + options + ")",
                () -> model.subscribe(c, grade, group, options), () -> broker.subscribe(c, grade, group, options));
    }

    private void unsubscribe(int c, String filter, int group) {
        write(filter);
        same("unsubscribe(" + c + ", " + group + ")", () -> model.unsubscribe(c, group),
                () -> broker.unsubscribe(c, group));
    }

    private void publish(int c, String topic, int grade, boolean retain) {
        int identifier = 1 + any(theme == 3 ? 4 : 50);
        int payload = any(30);
        boolean full = fullPending();
        int dropped = model.w.totals[2];
        write(topic);
        same("publish(" + c + ", " + grade + ", " + identifier + ", " + retain + ", " + payload + ")",
                () -> model.publish(c, grade, identifier, retain, payload),
                () -> broker.publish(c, grade, identifier, retain, payload));
        if (full && grade > 0 && model.w.totals[2] > dropped) {
            reached[3 + model.w.options[3]]++;
        }
    }

    private boolean fullPending() {
        boolean full = false;
        for (int i = 0; i < 6; i++) {
            full |= model.w.sessions[i] != null && model.w.sessions[i].pending.size() == 8;
        }
        return full;
    }

    /** Answers some message in flight, seldom the oldest one, so that identifiers meet old ones again. */
    private void answer(int c) {
        Model.Session s = model.w.sessions[c];
        int identifier = 1 + any(50);
        int kind = 1 << any(3);
        if (s != null && !s.flights.isEmpty() && !once(8)) {
            int size = s.flights.size();
            Model.Flight flight = s.flights.get(once(60) ? 0 : size - 1 - any(Math.max(1, size - 1)));
            identifier = flight.identifier;
            kind = once(10) ? kind : flight.waits;
            if (theme == 0 && size == 1 && !once(20)) {
                return;
            }
        }
        int asked = identifier;
        int said = kind;
        same("answer(" + c + ", " + said + ", " + asked + ")", () -> model.answer(c, said, asked),
                () -> broker.answer(c, said, asked));
    }

    private void take(int c) {
        for (int i = 0; i < 3; i++) {
            same("receive(" + c + ")", () -> model.receive(c), () -> broker.receive(c));
        }
        int what = any(6);
        same("packet(" + what + ")", () -> model.packet(what), () -> broker.packet(what));
        same("packet(4)", () -> model.packet(4), () -> broker.packet(4));
        same("topicCharacter(0)", () -> model.topicCharacter(0), () -> broker.topicCharacter(0));
        reached[10] += model.present != null && model.present.flags() == 3 ? 1 : 0;
    }

    private void member(String filter, int group, int index) {
        write(filter);
        same("shareMember(" + group + ", " + index + ")", () -> model.shareMember(group, index),
                () -> broker.shareMember(group, index));
    }

    private void keep() {
        if (once(2)) {
            same("save()", () -> model.save(), () -> broker.save());
            return;
        }
        String before = connections();
        same("restore()", () -> model.restore(), () -> broker.restore());
        reached[12] += before.equals(connections()) ? 0 : 1;
    }

    private String connections() {
        StringBuilder all = new StringBuilder();
        for (boolean connected : model.w.connected) {
            all.append(connected);
        }
        return all.toString();
    }

    private void advance(int ticks) {
        int shares = model.w.shareOrder.size();
        same("advance(" + ticks + ")", () -> model.advance(ticks), () -> broker.advance(ticks));
        reached[11] += model.w.shareOrder.size() < shares ? 1 : 0;
    }

    private void option(int option, int value) {
        same("setOption(" + option + ", " + value + ")", () -> model.setOption(option, value),
                () -> broker.setOption(option, value));
    }

    private void total(int what) {
        same("total(" + what + ")", () -> model.total(what), () -> broker.total(what));
    }

    private void look(int c) {
        int which = any(5);
        int index = any(5);
        int what = any(5);
        same("length(" + c + ", " + which + ")", () -> model.length(c, which), () -> broker.length(c, which));
        same("inFlight(" + c + ", " + index + ", " + what + ")", () -> model.inFlight(c, index, what),
                () -> broker.inFlight(c, index, what));
        same("load(" + c + ")", () -> model.load(c), () -> broker.load(c));
    }

    private void note() {
        for (int i = 0; i < 6; i++) {
            reached[2] += model.w.queues.get(i).size() == 30 ? 1 : 0;
            reached[6] += model.w.sessions[i] != null && model.w.sessions[i].subs.size() == 6 ? 1 : 0;
        }
        for (String share : model.w.shareOrder) {
            reached[5] += model.w.shares.get(share).size() >= 4 ? 1 : 0;
        }
        reached[7] += model.w.retained.size() == 8 ? 1 : 0;
        if (model.w.sessions[0] != null) {
            noteIdentifiers(model.w.sessions[0].flights);
        }
    }

    /** An identifier was passed over if the messages on both sides of it got in flight after its own message. */
    private static void noteIdentifiers(List<Model.Flight> flights) {
        for (int i = 0; i + 2 < flights.size(); i++) {
            for (int k = i + 1; k + 1 < flights.size(); k++) {
                int passed = flights.get(i).identifier;
                int before = flights.get(k).identifier;
                int after = flights.get(k + 1).identifier;
                reached[1] += before % 50 + 1 == passed && passed % 50 + 1 == after ? 1 : 0;
            }
        }
        for (int i = 0; i + 1 < flights.size(); i++) {
            reached[0] += flights.get(i).identifier > flights.get(i + 1).identifier ? 1 : 0;
        }
    }
}
