/** Promises 27 and 28: advance with its timeouts and expiries, and load. */
final class TimeTest {
    public static void main(String[] args) {
        clock();
        timeouts();
        timeoutChanges();
        expiry();
        expiryChanges();
        loads();
        loadsAreFloats();
        loadCountsResentPackets();
        Check.end();
    }

    private static void clock() {
        GradedTopicBroker b = new GradedTopicBroker();
        Check.due("1", b.advance(1), 1);
        Check.due("101", b.advance(100), 101);
        int[] wrong = {0, -1, 101, Integer.MIN_VALUE, Integer.MAX_VALUE};
        for (int ticks : wrong) {
            Check.badArgument("ticks " + ticks, () -> b.advance(ticks));
        }
        Check.due("102", b.advance(1), 102);
    }

    private static void timeouts() {
        GradedTopicBroker b = new GradedTopicBroker();
        b.connect(0, false);
        b.connect(1, false);
        b.setOption(1, 3);
        Check.retain(b, 1, "a", 2, 4);
        Check.subscribe(b, 0, "a", 2, 0, 0);
        b.advance(1);
        Check.publish(b, 1, "a", 1, 1, 5);
        Check.publish(b, 1, "a", 0, 1, 6);
        Check.drain(b, 0);
        b.advance(1);
        Check.noPacket("not yet", b, 0);
        b.advance(1);
        Check.packet("the first one", b, 0, Check.parts(0, 1, 2, 4, 3), "a");
        Check.noPacket("the other one not yet", b, 0);
        Check.due("sent at", b.inFlight(0, 0, 4), 3);
        b.answer(0, 2, 1);
        Check.drain(b, 0);
        b.advance(1);
        Check.packet("the other one", b, 0, Check.parts(0, 2, 1, 5, 1), "a");
        Check.noPacket("the release not yet", b, 0);
        b.advance(2);
        Check.packet("release", b, 0, Check.parts(3, 1, 0, 0, 0), "");
        Check.noPacket("only it", b, 0);
        Check.due("sent again", b.total(4), 3);
        b.advance(6);
        Check.due("sent again now", b.total(4), 7);
        b.disconnect(0);
        b.advance(10);
        Check.due("nothing to an offline one", b.total(4), 7);
        b.connect(0, false);
        Check.due("on resumption", b.total(4), 9);
        b.advance(2);
        Check.due("counted from there", b.total(4), 9);
        b.advance(1);
        Check.due("and then again", b.total(4), 11);
    }

    private static void timeoutChanges() {
        GradedTopicBroker b = new GradedTopicBroker();
        b.connect(0, false);
        Check.subscribe(b, 0, "a", 1, 0, 0);
        Check.publish(b, 0, "a", 1, 1, 5);
        b.advance(50);
        Check.due("no timeout at first", b.total(4), 0);
        b.setOption(1, 20);
        Check.due("a change does nothing", b.total(4), 0);
        b.advance(1);
        Check.due("but the next tick does", b.total(4), 1);
        b.advance(19);
        Check.due("19 later", b.total(4), 1);
        b.setOption(1, 1);
        b.advance(5);
        Check.due("each tick", b.total(4), 6);
        b.setOption(1, 0);
        b.advance(5);
        Check.due("none", b.total(4), 6);
    }

    private static void expiry() {
        GradedTopicBroker b = new GradedTopicBroker();
        b.connect(0, false);
        b.connect(1, false);
        Check.subscribe(b, 0, "a", 1, 0, 0);
        Check.subscribe(b, 0, "a", 1, 1, 0);
        b.advance(5);
        b.disconnect(0);
        b.advance(19);
        Check.due("not yet", b.sessionState(0), 1);
        Check.publish(b, 1, "a", 1, 1, 5);
        b.advance(1);
        Check.due("removed", b.sessionState(0), 0);
        Check.due("removed sessions", b.total(7), 1);
        Check.due("pending ones are not dropped", b.total(2), 0);
        Check.due("no share", Check.write(b, "a").shareSize(1), 0);
        Check.due("nobody", Check.publish(b, 1, "a", 1, 1, 5), 0);
        Check.due("a new one", b.connect(0, false), 0);
        b.advance(100);
        Check.due("a connected one stays", b.sessionState(0), 2);
        b.disconnect(0);
        b.advance(15);
        b.connect(0, false);
        b.disconnect(0);
        b.advance(19);
        Check.due("counted anew", b.sessionState(0), 1);
        b.breakConnection(1);
        b.advance(100);
        Check.due("both", b.total(7), 3);
        Check.due("none left", b.sessionState(1), 0);
        b.connect(2, true);
        b.disconnect(2);
        b.advance(100);
        Check.due("a clean one does not expire", b.total(7), 3);
    }

    private static void expiryChanges() {
        GradedTopicBroker b = new GradedTopicBroker();
        b.connect(0, false);
        b.disconnect(0);
        b.advance(10);
        b.setOption(2, 1);
        Check.due("a change does nothing", b.sessionState(0), 1);
        b.setOption(2, 100);
        b.advance(89);
        Check.due("99 ticks", b.sessionState(0), 1);
        b.advance(1);
        Check.due("100 ticks", b.sessionState(0), 0);
        b.connect(0, false);
        b.disconnect(0);
        b.setOption(2, 1);
        b.advance(1);
        Check.due("one tick", b.sessionState(0), 0);
    }

    private static void loads() {
        GradedTopicBroker b = new GradedTopicBroker();
        b.connect(0, false);
        for (int i = 1; i <= 4; i++) {
            Check.publish(b, 0, "a", 1, i, 1);
        }
        Check.due("not before a tick", b.load(0), 0);
        b.advance(1);
        Check.due("4 / 4", b.load(0), 1000);
        b.disconnect(0);
        b.advance(1);
        Check.due("of an offline client", b.load(0), 750);
        b.advance(1);
        Check.due("again", b.load(0), 562);
        b.connect(0, true);
        b.release(0, 1);
        b.lose(0);
        b.disconnect(0);
        b.advance(1);
        Check.due("goes on with the client, not the connection", b.load(0), 671);
        Check.due("others", b.load(1), 0);
    }

    private static void loadsAreFloats() {
        GradedTopicBroker b = new GradedTopicBroker();
        b.connect(0, false);
        float load = 0.0f;
        for (int round = 0; round < 40; round++) {
            int sent = round * 7 % 5;
            for (int i = 0; i < sent; i++) {
                b.release(0, 1);
                b.lose(0);
            }
            b.advance(1);
            load = load * 0.75f + sent * 0.25f;
            Check.due("load in round " + round, b.load(0), (int) (load * 1000.0f));
        }
    }

    private static void loadCountsResentPackets() {
        GradedTopicBroker b = new GradedTopicBroker();
        b.connect(0, false);
        b.connect(1, false);
        Check.subscribe(b, 0, "a", 1, 0, 0);
        Check.publish(b, 1, "a", 1, 1, 1);
        b.setOption(1, 1);
        b.advance(1);
        Check.due("sent and sent again", b.load(0), 500);
        b.advance(1);
        Check.due("sent again", b.load(0), 625);
    }
}
