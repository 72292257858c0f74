/** Promises 20 to 26: receive, packet, topicCharacter, lose, repeat, length, inFlight. */
final class NetworkTest {
    public static void main(String[] args) {
        receiving();
        wrongCalls();
        losing();
        repeating();
        fullQueue();
        ring();
        lengths();
        inFlight();
        Check.end();
    }

    private static void receiving() {
        GradedTopicBroker b = new GradedTopicBroker();
        b.connect(0, false);
        b.connect(1, false);
        Check.badArgument("what -1 without a packet", () -> b.packet(-1));
        Check.badState("no packet", () -> b.packet(5));
        Check.badState("no character", () -> b.topicCharacter(-1));
        Check.due("empty", b.receive(0), -1);
        Check.badState("still none", () -> b.packet(0));
        Check.subscribe(b, 0, "#", 0, 0, 0);
        Check.publish(b, 1, "abcdef/ghijkl/mnopqr/012345", 0, 0, 12);
        Check.packet("longest topic", b, 0, Check.parts(0, 0, 0, 12, 0), "abcdef/ghijkl/mnopqr/012345");
        Check.due("empty again", b.receive(0), -1);
        Check.due("the present packet stays", b.packet(3), 12);
        Check.publish(b, 1, "a", 1, 6, 1);
        Check.packet("of another client", b, 1, Check.parts(1, 6, 0, 0, 0), "");
        Check.due("without a topic", b.packet(5), 0);
        Check.badArgument("what 6", () -> b.packet(6));
        Check.badArgument("what -1", () -> b.packet(-1));
        b.disconnect(1);
        Check.due("stays without the connection", b.packet(1), 6);
        b.receive(0);
        Check.due("a later one", b.topicCharacter(0), 'a');
    }

    private static void wrongCalls() {
        GradedTopicBroker b = new GradedTopicBroker();
        int[] clients = {-1, 6, Integer.MIN_VALUE, Integer.MAX_VALUE};
        for (int c : clients) {
            Check.outOfBounds("receive", () -> b.receive(c));
            Check.outOfBounds("lose", () -> b.lose(c));
            Check.outOfBounds("repeat", () -> b.repeat(c));
            Check.outOfBounds("length", () -> b.length(c, 9));
            Check.outOfBounds("inFlight", () -> b.inFlight(c, 0, 9));
            Check.outOfBounds("load", () -> b.load(c));
        }
        Check.badState("receive", () -> b.receive(0));
        Check.badState("lose", () -> b.lose(0));
        Check.badState("repeat", () -> b.repeat(0));
        b.connect(0, false);
        Check.due("nothing to lose", b.lose(0), -1);
        Check.badState("nothing to repeat", () -> b.repeat(0));
        Check.badArgument("length 5", () -> b.length(0, 5));
        Check.badArgument("length -1", () -> b.length(1, -1));
    }

    private static void losing() {
        GradedTopicBroker b = new GradedTopicBroker();
        b.connect(0, false);
        Check.subscribe(b, 0, "a", 2, 0, 0);
        Check.publish(b, 0, "a", 2, 4, 1);
        b.answer(0, 2, 1);
        b.release(0, 4);
        Check.publish(b, 0, "b", 1, 4, 1);
        int[] kinds = {0, 2, 3, 4, 1, -1};
        for (int kind : kinds) {
            Check.due("lost", b.lose(0), kind);
        }
        Check.badState("losing is not receiving", () -> b.packet(0));
        Check.due("not because of a full queue", b.total(8), 0);
        Check.due("still in flight", b.length(0, 1), 1);
    }

    private static void repeating() {
        GradedTopicBroker b = new GradedTopicBroker();
        b.connect(0, false);
        b.connect(1, false);
        Check.retain(b, 1, "r/s", 1, 3);
        Check.subscribe(b, 0, "#", 2, 0, 0);
        Check.publish(b, 1, "a", 0, 0, 4);
        b.advance(1);
        int load = b.load(0);
        Check.due("three", b.repeat(0), 3);
        Check.packet("first", b, 0, Check.parts(0, 1, 1, 3, 2), "r/s");
        Check.packet("second", b, 0, Check.parts(0, 0, 0, 4, 0), "a");
        Check.packet("copy of the first", b, 0, Check.parts(0, 1, 1, 3, 2), "r/s");
        Check.noPacket("no more", b, 0);
        b.advance(1);
        Check.due("no sending", b.load(0), load * 3 / 4);
        Check.due("not sent again", b.total(4), 0);
        Check.due("one in flight", b.length(0, 1), 1);
    }

    private static void fullQueue() {
        GradedTopicBroker b = new GradedTopicBroker();
        b.connect(0, false);
        b.connect(1, false);
        Check.subscribe(b, 0, "a", 2, 0, 0);
        for (int i = 1; i <= 30; i++) {
            Check.publish(b, 1, "a", 0, 0, i);
        }
        Check.due("full", b.length(0, 0), 30);
        Check.due("none lost", b.total(8), 0);
        Check.due("not repeated", b.repeat(0), 30);
        Check.due("that copy is not counted", b.total(8), 0);
        Check.publish(b, 1, "a", 1, 1, 31);
        Check.due("one lost", b.total(8), 1);
        Check.due("but in flight", b.length(0, 1), 1);
        Check.due("and sent", b.inFlight(0, 0, 4), 0);
        b.release(0, 3);
        Check.due("two lost", b.total(8), 2);
        Check.due("still full", b.length(0, 0), 30);
        b.lose(0);
        Check.due("repeated", b.repeat(0), 30);
        for (int i = 2; i <= 31; i++) {
            Check.due("receive", b.receive(0), 0);
            Check.due("payload", b.packet(3), i == 31 ? 2 : i);
        }
        Check.noPacket("the rest is lost", b, 0);
        b.advance(1);
        Check.due("lost ones are sent", b.load(0), 8000);
        Check.due("to the other one", b.load(1), 250);
    }

    private static void ring() {
        GradedTopicBroker b = new GradedTopicBroker();
        b.connect(0, false);
        int put = 0;
        int got = 0;
        for (int round = 0; round < 12; round++) {
            for (int i = 0; i < 7; i++) {
                b.release(0, put % 50 + 1);
                put++;
            }
            for (int i = 0; i < 5; i++) {
                b.receive(0);
                Check.due("in order", b.packet(1), got % 50 + 1);
                got++;
            }
        }
        Check.due("left", b.length(0, 0), put - got);
    }

    private static void lengths() {
        GradedTopicBroker b = new GradedTopicBroker();
        b.connect(0, false);
        b.connect(1, false);
        Check.subscribe(b, 0, "a", 2, 0, 0);
        Check.subscribe(b, 0, "b", 2, 0, 0);
        for (int i = 1; i <= 5; i++) {
            Check.publish(b, 1, "a", 2, i, i);
        }
        Check.publish(b, 0, "c", 2, 1, 1);
        int[] want = {4, 3, 2, 1, 2};
        for (int which = 0; which < 5; which++) {
            Check.due("length " + which, b.length(0, which), want[which]);
        }
        b.disconnect(0);
        int[] offline = {0, 3, 2, 1, 2};
        for (int which = 0; which < 5; which++) {
            Check.due("offline length " + which, b.length(0, which), offline[which]);
        }
        b.advance(20);
        for (int which = 0; which < 5; which++) {
            Check.due("removed length " + which, b.length(0, which), 0);
        }
    }

    private static void inFlight() {
        GradedTopicBroker b = new GradedTopicBroker();
        b.connect(0, false);
        b.connect(1, false);
        b.advance(4);
        Check.subscribe(b, 0, "a", 2, 0, 0);
        Check.publish(b, 1, "a", 1, 1, 10);
        Check.publish(b, 1, "a", 2, 1, 20);
        int[][] want = {{1, 1, 10, 1, 4}, {2, 2, 20, 2, 4}};
        for (int i = 0; i < 2; i++) {
            for (int what = 0; what < 5; what++) {
                Check.due("part", b.inFlight(0, i, what), want[i][what]);
            }
        }
        Check.outOfBounds("index 2", () -> b.inFlight(0, 2, 0));
        Check.outOfBounds("index -1", () -> b.inFlight(0, -1, 9));
        Check.outOfBounds("index of nobody", () -> b.inFlight(3, 0, 9));
        Check.badArgument("what 5", () -> b.inFlight(0, 0, 5));
        Check.badArgument("what -1", () -> b.inFlight(0, 1, -1));
        b.answer(0, 1, 1);
        Check.due("moved up", b.inFlight(0, 0, 2), 20);
        Check.outOfBounds("index 1", () -> b.inFlight(0, 1, 0));
    }
}
