import java.util.function.Supplier;
import java.util.function.ToIntFunction;

/**
 * Every refused call: the exception that is due, the first one of the list where several are possible, and a state
 * that is left as it was; only the buffer is empty after a method that takes a text, and the error position is set
 * if nothing was refused before the text was read.
 */
final class RefusalTest {
    private static final String BOUNDS = "IndexOutOfBoundsException";
    private static final String ARGUMENT = "IllegalArgumentException";
    private static final String STATE = "IllegalStateException";
    private static final int[] NO_CLIENT = {-1, 6, Integer.MIN_VALUE, Integer.MAX_VALUE};
    /** Offline with a session, and without one. */
    private static final int[] NOT_CONNECTED = {2, 4};
    private static final int[] NO_IDENTIFIER = {0, 51, -1, Integer.MIN_VALUE, Integer.MAX_VALUE};
    private static final int[] NO_PAYLOAD = {-1, 10000, Integer.MIN_VALUE, Integer.MAX_VALUE};
    private static final int[] NO_GRADE = {-1, 3, Integer.MIN_VALUE, Integer.MAX_VALUE};
    private static final int[] NO_GROUP = {-1, 4, Integer.MIN_VALUE, Integer.MAX_VALUE};

    /** The error position of the world, before the refused call. */
    private static final int EARLIER_ERROR = 3;
    private static final String BUFFERED = "a/b";
    private static final String SEEN = Look.at(() -> world(BUFFERED));
    private static final String SEEN_WITH_EMPTY_BUFFER = Look.at(() -> world(""));

    public static void main(String[] args) {
        theLookSeesChanges();
        buffer();
        options();
        clients();
        connections();
        wills();
        subscribing();
        unsubscribing();
        subscriptions();
        shares();
        publishing();
        releasing();
        answering();
        reading();
        packets();
        lookingAtQueues();
        time();
        records();
        nothingSaved();
        Check.end();
    }

    /**
     * Clients 0, 3 and 5 are connected with persistent sessions, 1 with a clean one; 2 is offline, 4 has no session;
     * 0 has messages in flight, one of them received, 2 pending ones, 3 six subscriptions, 5 an empty queue.
     */
    private static GradedTopicBroker world(String text) {
        GradedTopicBroker b = new GradedTopicBroker();
        int[] connected = {0, 1, 2, 3, 5};
        for (int c : connected) {
            b.connect(c, c == 1);
        }
        b.setOption(1, 5);
        Check.retain(b, 1, "a/b", 1, 7);
        Check.retain(b, 1, "b", 2, 8);
        Check.subscribe(b, 0, "a/+", 2, 0, 0);
        Check.subscribe(b, 0, "a/#", 1, 1, 4);
        Check.subscribe(b, 2, "a/+", 1, 0, 0);
        Check.subscribe(b, 2, "a/#", 2, 1, 0);
        for (int i = 0; i < 6; i++) {
            Check.subscribe(b, 3, "c" + i, i % 3, i % 3, 0);
        }
        Check.publish(b, 1, "a/b", 2, 3, 41);
        b.answer(0, 2, 2);
        b.disconnect(2);
        b.save();
        Check.publish(b, 1, "a/b", 2, 4, 42);
        Check.publish(b, 0, "a/b", 2, 5, 43);
        Check.write(b, "w").setWill(0, 1, true, 11);
        Check.write(b, "a/b").setWill(1, 2, false, 12);
        b.advance(2);
        b.receive(0);
        Check.drain(b, 5);
        Check.outcome(() -> Check.write(b, "a/b!").published());
        return Check.write(b, text);
    }

    private static Supplier<GradedTopicBroker> after(String text, ToIntFunction<GradedTopicBroker> call) {
        return () -> {
            GradedTopicBroker b = world(text);
            Check.outcome(() -> call.applyAsInt(b));
            return b;
        };
    }

    private static void refuse(String what, String due, String text, int error, String seen,
            ToIntFunction<GradedTopicBroker> call) {
        GradedTopicBroker b = world(text);
        Check.same(what, Check.outcome(() -> call.applyAsInt(b)), due);
        Check.due(what + ": error position", b.errorPosition(), error);
        Check.same(what + ": everything else", Look.at(after(text, call)), seen);
    }

    /** A call that takes no text. */
    private static void refuse(String what, String due, ToIntFunction<GradedTopicBroker> call) {
        refuse(what, due, BUFFERED, EARLIER_ERROR, SEEN, call);
    }

    /** A call that takes the text. */
    private static void refuse(String what, String due, String text, int error, ToIntFunction<GradedTopicBroker> call) {
        refuse(what, due, text, error, SEEN_WITH_EMPTY_BUFFER, call);
    }

    private static void theLookSeesChanges() {
        differs("buffer", b -> b.append(0x61));
        differs("option", b -> b.setOption(2, 21));
        differs("connect", b -> b.connect(5, false));
        differs("will", b -> b.setWill(5, 0, false, 0));
        differs("will's payload", b -> b.setWill(1, 2, false, 13));
        differs("subscription", b -> b.subscribe(5, 0, 0, 0));
        differs("share", b -> b.subscribe(5, 0, 3, 0));
        differs("publish", b -> b.publish(5, 0, 0, false, 0));
        differs("release", b -> b.release(1, 3));
        differs("answer", b -> b.answer(0, 1, 1));
        differs("receive", b -> b.receive(0));
        differs("lose", b -> b.lose(0));
        differs("repeat", b -> b.repeat(0));
        differs("time", b -> b.advance(1));
        differs("save", b -> b.save());
        differs("restore", b -> b.restore());
    }

    private static void differs(String what, ToIntFunction<GradedTopicBroker> call) {
        Check.due("the look sees " + what, Look.at(after(BUFFERED, call)).equals(SEEN) ? 1 : 0, 0);
    }

    private static void buffer() {
        int[] wrong = {1, 32, 127, 128, 255};
        for (int sign : wrong) {
            for (int shift = 0; shift < 32; shift += 8) {
                int packed = 0x61616161 & ~(255 << shift) | sign << shift;
                refuse("append sign " + sign, ARGUMENT, b -> b.append(packed));
            }
        }
        String full = "abcdefghijklmnopqrstuvwxyz0123";
        String seen = Look.at(() -> world(full));
        refuse("31 characters", STATE, full, EARLIER_ERROR, seen, b -> b.append(0x61000000));
        refuse("31 characters, one of them wrong", ARGUMENT, full, EARLIER_ERROR, seen, b -> b.append(0x61000020));
        String almost = full.substring(0, 27);
        seen = Look.at(() -> world(almost));
        refuse("four more than 27", STATE, almost, EARLIER_ERROR, seen, b -> b.append(0x61616161));
    }

    private static void options() {
        int[] least = {1, 0, 1, 0};
        int[] most = {5, 20, 100, 1};
        for (int i = 0; i < 4; i++) {
            int option = i;
            refuse("too small", ARGUMENT, b -> b.setOption(option, least[option] - 1));
            refuse("too great", ARGUMENT, b -> b.setOption(option, most[option] + 1));
            refuse("least int", ARGUMENT, b -> b.setOption(option, Integer.MIN_VALUE));
            refuse("greatest int", ARGUMENT, b -> b.setOption(option, Integer.MAX_VALUE));
        }
        int[] none = {-1, 4, Integer.MIN_VALUE, Integer.MAX_VALUE};
        for (int option : none) {
            refuse("no option", BOUNDS, b -> b.setOption(option, 1));
            refuse("no option, no value", BOUNDS, b -> b.setOption(option, -1));
        }
    }

    private static void clients() {
        for (int c : NO_CLIENT) {
            refuse("connect", BOUNDS, b -> b.connect(c, true));
            refuse("connect", BOUNDS, b -> b.connect(c, false));
            refuse("disconnect", BOUNDS, b -> b.disconnect(c));
            refuse("breakConnection", BOUNDS, b -> b.breakConnection(c));
            refuse("sessionState", BOUNDS, b -> b.sessionState(c));
            refuse("subscription", BOUNDS, b -> b.subscription(c, 0, 9));
            refuse("relation", BOUNDS, b -> b.relation(c, 0, 0));
            refuse("release", BOUNDS, b -> b.release(c, 0));
            refuse("answer", BOUNDS, b -> b.answer(c, 0, 0));
            refuse("receive", BOUNDS, b -> b.receive(c));
            refuse("lose", BOUNDS, b -> b.lose(c));
            refuse("repeat", BOUNDS, b -> b.repeat(c));
            refuse("length", BOUNDS, b -> b.length(c, 9));
            refuse("inFlight", BOUNDS, b -> b.inFlight(c, 0, 9));
            refuse("load", BOUNDS, b -> b.load(c));
            refuse("setWill", BOUNDS, "!", EARLIER_ERROR, b -> b.setWill(c, 9, true, -1));
            refuse("subscribe", BOUNDS, "!", EARLIER_ERROR, b -> b.subscribe(c, 9, 9, 9));
            refuse("unsubscribe", BOUNDS, "!", EARLIER_ERROR, b -> b.unsubscribe(c, 9));
            refuse("publish", BOUNDS, "!", EARLIER_ERROR, b -> b.publish(c, 9, 0, true, -1));
            refuse("audience", BOUNDS, "!", EARLIER_ERROR, b -> b.audience(c));
            refuse("audience of a topic", BOUNDS, "a", EARLIER_ERROR, b -> b.audience(c));
        }
    }

    private static void connections() {
        for (int c : NOT_CONNECTED) {
            refuse("disconnect", STATE, b -> b.disconnect(c));
            refuse("breakConnection", STATE, b -> b.breakConnection(c));
            refuse("receive", STATE, b -> b.receive(c));
            refuse("lose", STATE, b -> b.lose(c));
            refuse("repeat", STATE, b -> b.repeat(c));
        }
        refuse("repeat of an empty queue", STATE, b -> b.repeat(5));
    }

    private static void wills() {
        refuse("no topic", ARGUMENT, "a/+", 2, b -> b.setWill(0, 0, true, 1));
        refuse("empty", ARGUMENT, "", 0, b -> b.setWill(0, 0, true, 1));
        for (int grade : NO_GRADE) {
            refuse("grade", ARGUMENT, "a", -1, b -> b.setWill(0, grade, true, 1));
        }
        for (int payload : NO_PAYLOAD) {
            refuse("payload", ARGUMENT, "a", -1, b -> b.setWill(0, 0, true, payload));
        }
        for (int c : NOT_CONNECTED) {
            refuse("not connected", STATE, "a", -1, b -> b.setWill(c, 0, true, 1));
            refuse("not connected, no topic", ARGUMENT, "a/", 2, b -> b.setWill(c, 0, true, 1));
            refuse("not connected, grade", ARGUMENT, "a", -1, b -> b.setWill(c, 3, true, 1));
            refuse("not connected, payload", ARGUMENT, "a", -1, b -> b.setWill(c, 0, true, -1));
        }
    }

    private static void subscribing() {
        refuse("no filter", ARGUMENT, "a/#/", 3, b -> b.subscribe(0, 0, 0, 0));
        refuse("empty", ARGUMENT, "", 0, b -> b.subscribe(0, 0, 0, 0));
        for (int grade : NO_GRADE) {
            refuse("grade", ARGUMENT, "a/+", -1, b -> b.subscribe(0, grade, 0, 0));
        }
        for (int group : NO_GROUP) {
            refuse("group", ARGUMENT, "a/+", -1, b -> b.subscribe(0, 0, group, 0));
        }
        int[] wrong = {-1, 8, Integer.MIN_VALUE, Integer.MAX_VALUE};
        for (int options : wrong) {
            refuse("options", ARGUMENT, "a/+", -1, b -> b.subscribe(0, 0, 0, options));
            refuse("options with a group", ARGUMENT, "a/#", -1, b -> b.subscribe(0, 0, 1, options));
        }
        for (int o = 1; o < 8; o += 2) {
            int options = o;
            for (int g = 1; g < 4; g++) {
                int group = g;
                refuse("option 1 with a group", ARGUMENT, "a/#", -1, b -> b.subscribe(0, 0, group, options));
            }
        }
        for (int c : NOT_CONNECTED) {
            refuse("not connected", STATE, "a/+", -1, b -> b.subscribe(c, 0, 0, 0));
            refuse("not connected, option 1", ARGUMENT, "a/#", -1, b -> b.subscribe(c, 0, 1, 1));
        }
        refuse("a seventh one", STATE, "c6", -1, b -> b.subscribe(3, 0, 0, 0));
        refuse("a seventh one of another group", STATE, "c1", -1, b -> b.subscribe(3, 0, 3, 0));
        refuse("a seventh one of no group", STATE, "c1", -1, b -> b.subscribe(3, 0, 0, 0));
        refuse("a seventh one, grade", ARGUMENT, "c6", -1, b -> b.subscribe(3, 3, 0, 0));
    }

    private static void unsubscribing() {
        refuse("no filter", ARGUMENT, "a+", 1, b -> b.unsubscribe(0, 0));
        refuse("empty", ARGUMENT, "", 0, b -> b.unsubscribe(0, 0));
        for (int group : NO_GROUP) {
            refuse("group", ARGUMENT, "a/+", -1, b -> b.unsubscribe(0, group));
            refuse("group, not connected", ARGUMENT, "a/+", -1, b -> b.unsubscribe(2, group));
        }
        for (int c : NOT_CONNECTED) {
            refuse("not connected", STATE, "a/+", -1, b -> b.unsubscribe(c, 0));
        }
    }

    private static void subscriptions() {
        int[] none = {-1, 2, 6, Integer.MIN_VALUE, Integer.MAX_VALUE};
        for (int index : none) {
            refuse("no subscription", BOUNDS, b -> b.subscription(0, index, 0));
            refuse("no subscription, no part", BOUNDS, b -> b.subscription(0, index, 4));
            refuse("no first one", BOUNDS, b -> b.relation(0, index, 0));
            refuse("no second one", BOUNDS, b -> b.relation(0, 0, index));
        }
        refuse("a seventh place", BOUNDS, b -> b.subscription(3, 6, 0));
        refuse("a seventh place", BOUNDS, b -> b.relation(3, 6, 5));
        refuse("a seventh place", BOUNDS, b -> b.relation(3, 5, 6));
        refuse("no session", BOUNDS, b -> b.subscription(4, 0, 0));
        refuse("no session", BOUNDS, b -> b.relation(4, 0, 0));
        int[] wrong = {-1, 4, Integer.MIN_VALUE, Integer.MAX_VALUE};
        for (int what : wrong) {
            refuse("no part", ARGUMENT, b -> b.subscription(0, 1, what));
        }
    }

    private static void shares() {
        int[] wrong = {0, -1, 4, Integer.MIN_VALUE, Integer.MAX_VALUE};
        for (int group : wrong) {
            refuse("group", ARGUMENT, "a/#", -1, b -> b.shareSize(group));
            refuse("group, no member", ARGUMENT, "a/#", -1, b -> b.shareMember(group, -1));
            refuse("group, no filter", ARGUMENT, "a#", 1, b -> b.shareSize(group));
            refuse("group, no filter", ARGUMENT, "a#", 1, b -> b.shareMember(group, 0));
        }
        refuse("empty", ARGUMENT, "", 0, b -> b.shareSize(1));
        refuse("empty", ARGUMENT, "", 0, b -> b.shareMember(1, 0));
        int[] none = {-1, 2, 6, Integer.MIN_VALUE, Integer.MAX_VALUE};
        for (int index : none) {
            refuse("no member", BOUNDS, "a/#", -1, b -> b.shareMember(1, index));
        }
        refuse("no share", BOUNDS, "a/#", -1, b -> b.shareMember(2, 0));
        refuse("no share", BOUNDS, "a/+", -1, b -> b.shareMember(1, 0));
    }

    private static void publishing() {
        refuse("no topic", ARGUMENT, "#", 0, b -> b.publish(1, 2, 9, true, 1));
        refuse("empty", ARGUMENT, "", 0, b -> b.publish(1, 2, 9, true, 1));
        for (int grade : NO_GRADE) {
            refuse("grade", ARGUMENT, "a/b", -1, b -> b.publish(1, grade, 9, true, 1));
        }
        for (int payload : NO_PAYLOAD) {
            for (int g = 0; g < 3; g++) {
                int grade = g;
                refuse("payload", ARGUMENT, "a/b", -1, b -> b.publish(1, grade, 9, true, payload));
            }
        }
        refuse("payload of a duplicate", ARGUMENT, "a/b", -1, b -> b.publish(1, 2, 3, true, 10000));
        for (int identifier : NO_IDENTIFIER) {
            refuse("identifier", ARGUMENT, "a/b", -1, b -> b.publish(1, 1, identifier, true, 1));
            refuse("identifier", ARGUMENT, "a/b", -1, b -> b.publish(1, 2, identifier, true, 1));
            refuse("identifier, not connected", ARGUMENT, "a/b", -1, b -> b.publish(2, 1, identifier, true, 1));
        }
        for (int c : NOT_CONNECTED) {
            for (int g = 0; g < 3; g++) {
                int grade = g;
                refuse("not connected", STATE, "a/b", -1, b -> b.publish(c, grade, 9, true, 1));
            }
        }
    }

    private static void releasing() {
        for (int identifier : NO_IDENTIFIER) {
            refuse("identifier", ARGUMENT, b -> b.release(1, identifier));
            refuse("identifier, not connected", ARGUMENT, b -> b.release(2, identifier));
        }
        for (int c : NOT_CONNECTED) {
            refuse("not connected", STATE, b -> b.release(c, 1));
        }
    }

    private static void answering() {
        int[] kinds = {-1, 0, 3, 5, 6, 7, 8, Integer.MIN_VALUE, Integer.MAX_VALUE};
        for (int kind : kinds) {
            refuse("kind", ARGUMENT, b -> b.answer(0, kind, 1));
            refuse("kind, not connected", ARGUMENT, b -> b.answer(2, kind, 1));
        }
        for (int identifier : NO_IDENTIFIER) {
            refuse("identifier", ARGUMENT, b -> b.answer(0, 1, identifier));
            refuse("identifier", ARGUMENT, b -> b.answer(0, 2, identifier));
            refuse("identifier", ARGUMENT, b -> b.answer(0, 4, identifier));
            refuse("identifier, not connected", ARGUMENT, b -> b.answer(4, 4, identifier));
        }
        for (int c : NOT_CONNECTED) {
            refuse("not connected", STATE, b -> b.answer(c, 1, 1));
        }
    }

    private static void reading() {
        String[] noTopics = {"", "+", "#", "a/", "a//b", "abcdefg", "a/b/c/d/", "a/b/c/d/e", "/a", "A"};
        int[] errors = {0, 0, 0, 2, 2, 6, 7, 7, 0, 0};
        for (int i = 0; i < noTopics.length; i++) {
            String text = noTopics[i];
            int error = errors[i];
            refuse("audience", ARGUMENT, text, error, b -> b.audience(0));
            refuse("audience of an offline client", ARGUMENT, text, error, b -> b.audience(4));
            refuse("published", ARGUMENT, text, error, b -> b.published());
        }
    }

    private static void packets() {
        int[] wrong = {-1, 6, Integer.MIN_VALUE, Integer.MAX_VALUE};
        for (int what : wrong) {
            refuse("no part", ARGUMENT, b -> b.packet(what));
        }
        int[] none = {-1, 3, 27, Integer.MIN_VALUE, Integer.MAX_VALUE};
        for (int index : none) {
            refuse("no character", BOUNDS, b -> b.topicCharacter(index));
        }
    }

    private static void lookingAtQueues() {
        int[] wrong = {-1, 5, Integer.MIN_VALUE, Integer.MAX_VALUE};
        for (int which : wrong) {
            refuse("no length", ARGUMENT, b -> b.length(0, which));
            refuse("no length of nobody", ARGUMENT, b -> b.length(4, which));
            refuse("no part", ARGUMENT, b -> b.inFlight(0, 0, which));
        }
        int[] none = {-1, 3, 5, Integer.MIN_VALUE, Integer.MAX_VALUE};
        for (int index : none) {
            refuse("no message", BOUNDS, b -> b.inFlight(0, index, 0));
            refuse("no message, no part", BOUNDS, b -> b.inFlight(0, index, 5));
        }
        refuse("no message in flight", BOUNDS, b -> b.inFlight(5, 0, 0));
        refuse("no session", BOUNDS, b -> b.inFlight(4, 0, 0));
    }

    private static void time() {
        int[] wrong = {0, -1, 101, Integer.MIN_VALUE, Integer.MAX_VALUE};
        for (int ticks : wrong) {
            refuse("ticks", ARGUMENT, b -> b.advance(ticks));
        }
    }

    private static void records() {
        int[] none = {-1, 2, 8, Integer.MIN_VALUE, Integer.MAX_VALUE};
        for (int index : none) {
            refuse("no retained message", BOUNDS, b -> b.retained(index, 0));
            refuse("no retained message, no part", BOUNDS, b -> b.retained(index, 3));
        }
        int[] wrong = {-1, 3, Integer.MIN_VALUE, Integer.MAX_VALUE};
        for (int what : wrong) {
            refuse("no part", ARGUMENT, b -> b.retained(1, what));
        }
        int[] totals = {-1, 10, Integer.MIN_VALUE, Integer.MAX_VALUE};
        for (int what : totals) {
            refuse("no total", ARGUMENT, b -> b.total(what));
        }
    }

    /** What can be refused only by a broker that has neither a snapshot nor a present packet. */
    private static void nothingSaved() {
        Supplier<GradedTopicBroker> plain = () -> {
            GradedTopicBroker b = new GradedTopicBroker();
            b.connect(0, false);
            b.release(0, 1);
            b.advance(1);
            return b;
        };
        String seen = Look.at(plain);
        refuseOf(plain, seen, "restore", STATE, b -> b.restore());
        for (int what = 0; what < 6; what++) {
            int part = what;
            refuseOf(plain, seen, "packet", STATE, b -> b.packet(part));
        }
        refuseOf(plain, seen, "packet -1", ARGUMENT, b -> b.packet(-1));
        refuseOf(plain, seen, "packet 6", ARGUMENT, b -> b.packet(6));
        refuseOf(plain, seen, "topicCharacter", STATE, b -> b.topicCharacter(0));
        refuseOf(plain, seen, "topicCharacter -1", STATE, b -> b.topicCharacter(-1));
    }

    private static void refuseOf(Supplier<GradedTopicBroker> maker, String seen, String what, String due,
            ToIntFunction<GradedTopicBroker> call) {
        GradedTopicBroker b = maker.get();
        Check.same(what, Check.outcome(() -> call.applyAsInt(b)), due);
        Check.same(what + ": everything", Look.at(() -> {
            GradedTopicBroker other = maker.get();
            Check.outcome(() -> call.applyAsInt(other));
            return other;
        }), seen);
    }
}
