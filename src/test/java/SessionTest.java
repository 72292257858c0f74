/** Promises 5 to 9: connect, disconnect, breakConnection, setWill, sessionState. */
final class SessionTest {
    public static void main(String[] args) {
        states();
        wrongCalls();
        cleanReplacesPersistent();
        resumption();
        pendingAfterResumption();
        takeover();
        takeoverOfClean();
        wills();
        willsAreForgotten();
        willOfOwnSession();
        retainedWill();
        connectionsLosePackets();
        Check.end();
    }

    private static void states() {
        GradedTopicBroker b = new GradedTopicBroker();
        Check.due("none", b.sessionState(5), 0);
        Check.due("begins", b.connect(5, false), 0);
        Check.due("persistent", b.sessionState(5), 2);
        Check.due("goes on", b.disconnect(5), 1);
        Check.due("offline", b.sessionState(5), 1);
        Check.due("resumed", b.connect(5, false), 1);
        Check.due("persistent again", b.sessionState(5), 2);
        Check.due("broken without a will", b.breakConnection(5), 0);
        Check.due("offline again", b.sessionState(5), 1);
        Check.due("clean begins", b.connect(5, true), 0);
        Check.due("clean", b.sessionState(5), 3);
        Check.due("clean is removed", b.disconnect(5), 0);
        Check.due("none again", b.sessionState(5), 0);
        b.connect(5, true);
        b.breakConnection(5);
        Check.due("broken clean one", b.sessionState(5), 0);
        Check.due("persistent begins", b.connect(5, false), 0);
        Check.due("others have none", b.sessionState(4), 0);
    }

    private static void wrongCalls() {
        GradedTopicBroker b = new GradedTopicBroker();
        int[] clients = {-1, 6, Integer.MIN_VALUE, Integer.MAX_VALUE};
        for (int c : clients) {
            Check.outOfBounds("connect", () -> b.connect(c, true));
            Check.outOfBounds("disconnect", () -> b.disconnect(c));
            Check.outOfBounds("breakConnection", () -> b.breakConnection(c));
            Check.outOfBounds("setWill", () -> b.setWill(c, 9, true, -1));
            Check.outOfBounds("sessionState", () -> b.sessionState(c));
        }
        Check.badState("disconnect", () -> b.disconnect(0));
        Check.badState("breakConnection", () -> b.breakConnection(0));
        Check.badState("setWill", () -> Check.write(b, "a").setWill(0, 2, true, 9999));
        Check.badArgument("grade 3", () -> Check.write(b, "a").setWill(0, 3, true, 0));
        Check.badArgument("grade -1", () -> Check.write(b, "a").setWill(0, -1, true, 0));
        Check.badArgument("payload -1", () -> Check.write(b, "a").setWill(0, 0, true, -1));
        Check.badArgument("payload 10000", () -> Check.write(b, "a").setWill(0, 0, true, 10000));
        Check.badArgument("no topic", () -> Check.write(b, "+").setWill(0, 0, true, 0));
        b.connect(0, false);
        b.disconnect(0);
        Check.badState("disconnect twice", () -> b.disconnect(0));
        Check.badState("break an offline one", () -> b.breakConnection(0));
    }

    private static void cleanReplacesPersistent() {
        GradedTopicBroker b = new GradedTopicBroker();
        b.connect(0, false);
        Check.subscribe(b, 0, "a", 1, 0, 0);
        Check.subscribe(b, 0, "a", 1, 2, 0);
        Check.publish(b, 0, "a", 2, 7, 1);
        Check.due("kept", b.length(0, 3), 1);
        Check.due("in flight", b.length(0, 1), 2);
        b.disconnect(0);
        Check.due("clean", b.connect(0, true), 0);
        for (int which = 0; which < 5; which++) {
            Check.due("nothing left " + which, b.length(0, which), 0);
        }
        Check.due("no member", Check.write(b, "a").shareSize(2), 0);
        Check.due("nobody", Check.publish(b, 0, "a", 2, 7, 1), 0);
        Check.due("not suppressed", b.total(3), 0);
        Check.subscribe(b, 0, "b", 1, 0, 0);
        Check.publish(b, 0, "b", 1, 7, 1);
        Check.due("identifiers begin at 1", b.inFlight(0, 0, 0), 1);
    }

    private static void resumption() {
        GradedTopicBroker b = new GradedTopicBroker();
        b.connect(1, false);
        b.connect(0, false);
        Check.retain(b, 1, "r", 2, 5);
        Check.subscribe(b, 0, "+", 2, 0, 0);
        Check.publish(b, 1, "x", 1, 1, 6);
        Check.publish(b, 1, "y", 2, 2, 7);
        Check.due("answer", b.answer(0, 2, 3), 1);
        b.advance(2);
        b.disconnect(0);
        Check.due("in flight while offline", b.length(0, 1), 3);
        Check.due("the queue is lost", b.length(0, 0), 0);
        b.advance(1);
        Check.due("nothing is sent again to nobody", b.total(4), 0);
        Check.due("resumed", b.connect(0, false), 1);
        Check.due("sent again", b.total(4), 3);
        Check.packet("retained one", b, 0, Check.parts(0, 1, 2, 5, 3), "r");
        Check.packet("plain one", b, 0, Check.parts(0, 2, 1, 6, 1), "x");
        Check.packet("release", b, 0, Check.parts(3, 3, 0, 0, 0), "");
        Check.noPacket("three only", b, 0);
        for (int i = 0; i < 3; i++) {
            Check.due("sent at", b.inFlight(0, i, 4), 3);
        }
        Check.due("subscriptions stay", b.length(0, 4), 1);
    }

    private static void pendingAfterResumption() {
        GradedTopicBroker b = new GradedTopicBroker();
        b.connect(1, false);
        b.connect(0, false);
        Check.subscribe(b, 0, "a", 1, 0, 0);
        Check.publish(b, 1, "a", 1, 1, 100);
        b.disconnect(0);
        for (int i = 1; i <= 4; i++) {
            Check.publish(b, 1, "a", 1, 1, 100 + i);
        }
        Check.due("pending", b.length(0, 2), 4);
        b.connect(0, false);
        Check.due("in flight", b.length(0, 1), 3);
        Check.due("still pending", b.length(0, 2), 2);
        Check.packet("again", b, 0, Check.parts(0, 1, 1, 100, 1), "a");
        Check.packet("first pending", b, 0, Check.parts(0, 2, 1, 101, 0), "a");
        Check.packet("second pending", b, 0, Check.parts(0, 3, 1, 102, 0), "a");
        Check.noPacket("no more", b, 0);
    }

    private static void takeover() {
        GradedTopicBroker b = new GradedTopicBroker();
        b.connect(0, false);
        b.connect(1, false);
        Check.subscribe(b, 1, "w", 2, 0, 0);
        Check.subscribe(b, 0, "w", 2, 0, 0);
        Check.write(b, "w").setWill(0, 1, false, 8);
        Check.due("resumed by takeover", b.connect(0, false), 1);
        Check.due("takeovers", b.total(5), 1);
        Check.due("wills", b.total(6), 1);
        Check.due("published", b.total(0), 1);
        Check.packet("the other one gets the will", b, 1, Check.parts(0, 1, 1, 8, 0), "w");
        Check.packet("the own one pending, then in flight", b, 0, Check.parts(0, 1, 1, 8, 0), "w");
        Check.due("not sent again", b.total(4), 0);
        Check.due("the will is gone", b.connect(0, false), 1);
        Check.due("wills still", b.total(6), 1);
        Check.due("takeovers now", b.total(5), 2);
        Check.due("sent again now", b.total(4), 1);
        Check.packet("again", b, 0, Check.parts(0, 1, 1, 8, 1), "w");
        Check.due("clean by takeover", b.connect(0, true), 0);
        Check.due("clean", b.sessionState(0), 3);
        Check.due("no subscriptions", b.length(0, 4), 0);
    }

    private static void takeoverOfClean() {
        GradedTopicBroker b = new GradedTopicBroker();
        b.connect(0, true);
        Check.subscribe(b, 0, "w", 2, 0, 0);
        Check.subscribe(b, 0, "w", 2, 1, 0);
        Check.write(b, "w").setWill(0, 1, false, 8);
        Check.due("a persistent one begins", b.connect(0, false), 0);
        Check.due("persistent", b.sessionState(0), 2);
        Check.due("no subscriptions", b.length(0, 4), 0);
        Check.due("nobody got the will", b.total(1), 0);
        Check.due("it was published", Check.write(b, "w").published(), 1);
        Check.due("no share", Check.write(b, "w").shareSize(1), 0);
    }

    private static void wills() {
        GradedTopicBroker b = new GradedTopicBroker();
        b.connect(0, false);
        b.connect(1, false);
        Check.subscribe(b, 1, "a/#", 2, 0, 0);
        Check.due("first will", Check.write(b, "a/x").setWill(0, 2, false, 3), 0);
        Check.due("replaces it", Check.write(b, "a").setWill(0, 1, false, 9999), 1);
        Check.badArgument("wrong will", () -> Check.write(b, "a").setWill(0, 1, false, -1));
        Check.due("will published", b.breakConnection(0), 1);
        Check.packet("will", b, 1, Check.parts(0, 1, 1, 9999, 0), "a");
        Check.noPacket("one will", b, 1);
        Check.due("wills", b.total(6), 1);
        Check.due("no takeover", b.total(5), 0);
        b.connect(0, false);
        Check.due("will is forgotten", b.breakConnection(0), 0);
        Check.due("no other will", b.total(6), 1);
        Check.due("of the topic", Check.write(b, "a").published(), 1);
    }

    private static void willsAreForgotten() {
        GradedTopicBroker b = new GradedTopicBroker();
        b.connect(0, false);
        Check.write(b, "a").setWill(0, 1, true, 4);
        b.disconnect(0);
        b.connect(0, false);
        Check.due("forgotten by disconnect", b.breakConnection(0), 0);
        Check.due("nothing published", b.total(0), 0);
        b.connect(0, false);
        Check.due("a new one replaces nothing", Check.write(b, "a").setWill(0, 1, true, 4), 0);
    }

    private static void willOfOwnSession() {
        GradedTopicBroker b = new GradedTopicBroker();
        b.connect(0, false);
        Check.subscribe(b, 0, "a", 2, 0, 0);
        Check.subscribe(b, 0, "b", 2, 0, 1);
        Check.write(b, "a").setWill(0, 0, false, 4);
        b.breakConnection(0);
        Check.due("given to the offline session", b.total(1), 1);
        Check.due("and dropped", b.total(2), 1);
        b.connect(0, false);
        Check.write(b, "b").setWill(0, 2, false, 4);
        b.breakConnection(0);
        Check.due("published by the client itself", b.total(1), 1);
        b.connect(0, true);
        Check.subscribe(b, 0, "a", 2, 0, 0);
        Check.write(b, "a").setWill(0, 2, false, 4);
        b.breakConnection(0);
        Check.due("a clean session is removed before", b.total(1), 1);
    }

    private static void retainedWill() {
        GradedTopicBroker b = new GradedTopicBroker();
        b.connect(0, false);
        Check.write(b, "a/b").setWill(0, 2, true, 4);
        b.breakConnection(0);
        Check.due("retained", b.retainedCount(), 1);
        Check.due("grade", b.retained(0, 0), 2);
        Check.due("payload", b.retained(0, 1), 4);
        b.connect(0, false);
        Check.write(b, "a/b").setWill(0, 2, true, 0);
        b.breakConnection(0);
        Check.due("removed", b.retainedCount(), 0);
        b.connect(0, false);
        Check.write(b, "a/b").setWill(0, 2, false, 7);
        b.breakConnection(0);
        Check.due("not retained", b.retainedCount(), 0);
    }

    private static void connectionsLosePackets() {
        GradedTopicBroker b = new GradedTopicBroker();
        b.connect(0, false);
        Check.publish(b, 0, "a", 1, 1, 1);
        Check.due("a packet", b.length(0, 0), 1);
        b.connect(0, false);
        Check.due("lost by takeover", b.length(0, 0), 0);
        Check.due("not lost because of a full queue", b.total(8), 0);
        Check.publish(b, 0, "a", 1, 1, 1);
        b.receive(0);
        b.disconnect(0);
        Check.due("the present packet stays", b.packet(0), 1);
        Check.badState("no queue", () -> b.receive(0));
    }
}
