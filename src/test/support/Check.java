import java.util.function.IntSupplier;

/** What the tests share: answers that are due, exceptions that are due, and texts for the buffer. */
final class Check {
    private static int wrong = 0;
    private static int asked = 0;

    private Check() {
    }

    static void due(String what, int got, int want) {
        asked++;
        if (got != want) {
            wrong++;
            System.out.println(what + " answered " + got + ", due is " + want);
        }
    }

    static void same(String what, String got, String want) {
        asked++;
        if (!got.equals(want)) {
            wrong++;
            System.out.println(what + " answered " + got + ", due is " + want);
        }
    }

    static void outOfBounds(String what, IntSupplier call) {
        raises(what, "IndexOutOfBoundsException", call);
    }

    static void badArgument(String what, IntSupplier call) {
        raises(what, "IllegalArgumentException", call);
    }

    static void badState(String what, IntSupplier call) {
        raises(what, "IllegalStateException", call);
    }

    private static void raises(String what, String want, IntSupplier call) {
        same(what, outcome(call), want);
    }

    /** The answer of a call, or the name of what it throws. */
    static String outcome(IntSupplier call) {
        try {
            return Integer.toString(call.getAsInt());
        } catch (RuntimeException e) {
            return e.getClass().getSimpleName();
        }
    }

    /** The texts of a buffer, four characters an int, the last int filled up with zeros. */
    static int[] packed(String text) {
        int[] parts = new int[(text.length() + 3) / 4];
        for (int i = 0; i < text.length(); i++) {
            parts[i / 4] |= text.charAt(i) << (24 - 8 * (i % 4));
        }
        return parts;
    }

    static GradedTopicBroker write(GradedTopicBroker broker, String text) {
        for (int part : packed(text)) {
            broker.append(part);
        }
        return broker;
    }

    static int subscribe(GradedTopicBroker broker, int client, String filter, int grade, int group, int options) {
        return write(broker, filter).subscribe(client, grade, group, options);
    }

    static int publish(GradedTopicBroker broker, int client, String topic, int grade, int identifier, int payload) {
        return write(broker, topic).publish(client, grade, identifier, false, payload);
    }

    static int retain(GradedTopicBroker broker, int client, String topic, int grade, int payload) {
        return write(broker, topic).publish(client, grade, 50, true, payload);
    }

    /** Takes the next packet and compares all its parts; the topic is "" where the packet is no message. */
    static void packet(String what, GradedTopicBroker broker, int client, int[] parts, String topic) {
        due(what + ": kind", broker.receive(client), parts[0]);
        for (int i = 0; i < parts.length; i++) {
            due(what + ": part " + i, broker.packet(i), parts[i]);
        }
        due(what + ": length of the topic", broker.packet(5), topic.length());
        for (int i = 0; i < topic.length(); i++) {
            due(what + ": character " + i, broker.topicCharacter(i), topic.charAt(i));
        }
        outOfBounds(what + ": character behind the topic", () -> broker.topicCharacter(topic.length()));
        outOfBounds(what + ": character -1", () -> broker.topicCharacter(-1));
    }

    static void noPacket(String what, GradedTopicBroker broker, int client) {
        due(what + ": no packet", broker.receive(client), -1);
    }

    static int[] parts(int kind, int identifier, int grade, int payload, int flags) {
        return new int[] {kind, identifier, grade, payload, flags};
    }

    /** Empties a network queue. */
    static void drain(GradedTopicBroker broker, int client) {
        for (int i = 0; i < 31 && broker.lose(client) >= 0; i++) {
            continue;
        }
    }

    static void end() {
        System.out.println(asked + " asked, " + wrong + " wrong");
        if (wrong > 0 || asked == 0) {
            System.exit(1);
        }
    }
}
