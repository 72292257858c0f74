/** Promises 29 to 34: retained messages, published, totals, save and restore. */
final class RecordTest {
    public static void main(String[] args) {
        retaining();
        retainedLimit();
        retainedWrong();
        retainingBeforeGiving();
        published();
        totals();
        totalsTogether();
        restoreWithoutSnapshot();
        whatIsNotSaved();
        restoreEverything();
        restoreSessions();
        restoreConnections();
        restoreShares();
        Check.end();
    }

    private static void entry(GradedTopicBroker b, int index, int grade, int payload, int size) {
        Check.due("grade of " + index, b.retained(index, 0), grade);
        Check.due("payload of " + index, b.retained(index, 1), payload);
        Check.due("length of " + index, b.retained(index, 2), size);
    }

    private static void retaining() {
        GradedTopicBroker b = new GradedTopicBroker();
        b.connect(0, false);
        Check.retain(b, 0, "b", 2, 1);
        Check.retain(b, 0, "a/b", 1, 2);
        Check.retain(b, 0, "ab", 0, 3);
        Check.retain(b, 0, "a", 0, 4);
        Check.due("four", b.retainedCount(), 4);
        entry(b, 0, 0, 4, 1);
        entry(b, 1, 1, 2, 3);
        entry(b, 2, 0, 3, 2);
        entry(b, 3, 2, 1, 1);
        Check.retain(b, 0, "a/b", 0, 9999);
        Check.due("in place of it", b.retainedCount(), 4);
        entry(b, 1, 0, 9999, 3);
        Check.publish(b, 0, "a/b", 1, 1, 0);
        Check.due("payload 0 that is not to be retained", b.retainedCount(), 4);
        Check.due("payload 0", Check.retain(b, 0, "a/b", 1, 0), 0);
        Check.due("removed", b.retainedCount(), 3);
        entry(b, 1, 0, 3, 2);
        entry(b, 2, 2, 1, 1);
        Check.retain(b, 0, "a/b", 1, 0);
        Check.retain(b, 0, "c", 1, 0);
        Check.due("nothing to remove", b.retainedCount(), 3);
        Check.publish(b, 0, "a", 2, 3, 17);
        entry(b, 0, 0, 4, 1);
    }

    private static void retainedLimit() {
        GradedTopicBroker b = new GradedTopicBroker();
        b.connect(0, false);
        for (int i = 1; i <= 8; i++) {
            Check.retain(b, 0, "t" + i, 0, i);
        }
        Check.subscribe(b, 0, "+", 0, 0, 2);
        Check.due("given all the same", Check.retain(b, 0, "t0", 0, 9), 1);
        Check.due("not retained", b.retainedCount(), 8);
        entry(b, 0, 0, 1, 2);
        Check.retain(b, 0, "t8", 0, 88);
        entry(b, 7, 0, 88, 2);
        Check.retain(b, 0, "t4", 0, 0);
        Check.retain(b, 0, "t0", 0, 9);
        Check.due("room", b.retainedCount(), 8);
        entry(b, 0, 0, 9, 2);
        entry(b, 4, 0, 5, 2);
    }

    private static void retainedWrong() {
        GradedTopicBroker b = new GradedTopicBroker();
        Check.outOfBounds("none", () -> b.retained(0, 9));
        b.connect(0, false);
        Check.retain(b, 0, "a", 0, 1);
        Check.outOfBounds("index 1", () -> b.retained(1, 0));
        Check.outOfBounds("index -1", () -> b.retained(-1, 0));
        Check.badArgument("what 3", () -> b.retained(0, 3));
        Check.badArgument("what -1", () -> b.retained(0, -1));
        b.disconnect(0);
        b.advance(100);
        Check.due("stays", b.retainedCount(), 1);
    }

    private static void retainingBeforeGiving() {
        GradedTopicBroker b = new GradedTopicBroker();
        b.connect(0, false);
        Check.subscribe(b, 0, "a", 2, 0, 0);
        Check.retain(b, 0, "a", 2, 5);
        Check.packet("copies do not have the flag", b, 0, Check.parts(0, 1, 2, 5, 0), "a");
        entry(b, 0, 2, 5, 1);
        Check.drain(b, 0);
        Check.subscribe(b, 0, "a", 0, 0, 0);
        Check.packet("the retained one has it", b, 0, Check.parts(0, 0, 0, 5, 2), "a");
        entry(b, 0, 2, 5, 1);
    }

    private static void published() {
        GradedTopicBroker b = new GradedTopicBroker();
        b.connect(0, false);
        Check.publish(b, 0, "a", 0, 0, 1);
        Check.publish(b, 0, "a/b", 2, 1, 1);
        Check.publish(b, 0, "a/b", 2, 1, 1);
        Check.retain(b, 0, "a", 1, 0);
        Check.write(b, "a").setWill(0, 0, false, 1);
        b.breakConnection(0);
        Check.due("a", Check.write(b, "a").published(), 3);
        Check.due("a/b", Check.write(b, "a/b").published(), 1);
        Check.due("b", Check.write(b, "b").published(), 0);
        Check.badArgument("no topic", () -> Check.write(b, "+").published());
        Check.badArgument("empty", () -> b.published());
        GradedTopicBroker many = new GradedTopicBroker();
        many.connect(0, false);
        for (int i = 0; i < 127; i++) {
            Check.publish(many, 0, "t" + i, 0, 0, 1);
        }
        for (int i = 0; i < 127; i++) {
            Check.due("t" + i, Check.write(many, "t" + i).published(), 1);
        }
    }

    private static void totals() {
        GradedTopicBroker b = new GradedTopicBroker();
        Check.badArgument("what 10", () -> b.total(10));
        Check.badArgument("what -1", () -> b.total(-1));
        Check.badArgument("what", () -> b.total(Integer.MIN_VALUE));
    }

    private static void totalsTogether() {
        GradedTopicBroker b = new GradedTopicBroker();
        b.connect(0, false);
        b.connect(1, false);
        Check.retain(b, 0, "a", 1, 7);
        Check.subscribe(b, 1, "a", 2, 0, 0);
        Check.publish(b, 0, "a", 2, 1, 8);
        Check.publish(b, 0, "a", 2, 1, 8);
        b.answer(1, 1, 1);
        b.answer(1, 2, 2);
        b.answer(1, 4, 2);
        Check.write(b, "a").setWill(1, 0, false, 3);
        b.connect(1, false);
        Check.publish(b, 0, "a", 1, 1, 9);
        b.setOption(1, 1);
        b.advance(2);
        b.disconnect(1);
        b.advance(20);
        for (int i = 0; i < 33; i++) {
            b.release(0, 1);
        }
        int[] want = {4, 4, 1, 1, 2, 1, 1, 1, 7, 2};
        for (int what = 0; what < 10; what++) {
            Check.due("total " + what, b.total(what), want[what]);
        }
    }

    private static void restoreWithoutSnapshot() {
        GradedTopicBroker b = new GradedTopicBroker();
        Check.badState("nothing saved", () -> b.restore());
        b.advance(7);
        Check.due("save", b.save(), 7);
        b.advance(7);
        Check.due("restore", b.restore(), 7);
        b.advance(1);
        Check.due("restore again", b.restore(), 7);
        b.advance(2);
        Check.due("save again", b.save(), 9);
        b.advance(2);
        Check.due("the later one", b.restore(), 9);
    }

    private static void whatIsNotSaved() {
        GradedTopicBroker b = new GradedTopicBroker();
        b.connect(0, false);
        b.release(0, 4);
        b.release(0, 5);
        b.release(0, 6);
        b.receive(0);
        Check.badArgument("an error", () -> Check.write(b, "ab!").published());
        Check.write(b, "x");
        b.save();
        Check.badArgument("another error", () -> b.published() + Check.write(b, "a!").published());
        Check.write(b, "abc");
        b.receive(0);
        b.restore();
        Check.due("error position", b.errorPosition(), 1);
        Check.due("buffer", b.append(0), 3);
        Check.due("present packet", b.packet(1), 5);
        Check.due("the queue is as it was", b.receive(0), 4);
        Check.due("its packet", b.packet(1), 5);
    }

    private static void restoreEverything() {
        GradedTopicBroker b = new GradedTopicBroker();
        b.connect(0, false);
        b.connect(1, true);
        b.connect(2, false);
        b.setOption(0, 1);
        b.setOption(1, 2);
        b.setOption(2, 5);
        b.setOption(3, 1);
        Check.subscribe(b, 0, "a", 2, 0, 1);
        Check.subscribe(b, 0, "a", 2, 1, 0);
        Check.subscribe(b, 1, "a", 2, 1, 0);
        Check.retain(b, 2, "a", 2, 4);
        Check.publish(b, 2, "a", 2, 9, 5);
        Check.write(b, "a").setWill(2, 1, true, 6);
        b.disconnect(0);
        b.advance(1);
        int[] before = look(b);
        b.save();
        b.connect(0, true);
        Check.subscribe(b, 0, "c/+", 0, 2, 0);
        Check.subscribe(b, 1, "a", 0, 1, 4);
        b.disconnect(2);
        b.disconnect(1);
        b.connect(1, false);
        Check.retain(b, 1, "a", 1, 0);
        Check.retain(b, 1, "b", 1, 3);
        for (int i = 0; i < 4; i++) {
            b.setOption(i, 1);
        }
        b.advance(30);
        Check.due("restored", b.restore(), 1);
        int[] after = look(b);
        for (int i = 0; i < before.length; i++) {
            Check.due("look " + i, after[i], before[i]);
        }
        Check.due("the will is there", b.breakConnection(2), 1);
        Check.due("and is retained", b.retained(0, 1), 6);
        b.restore();
        Check.due("the snapshot is kept", b.retained(0, 1), 4);
        Check.due("members as they were", Check.write(b, "a").shareMember(1, 0), 0);
        Check.due("the offline one expires as before", b.advance(4), 5);
        Check.due("session 0", b.sessionState(0), 0);
        Check.due("window", b.setOption(0, 3), 1);
        Check.due("timeout", b.setOption(1, 3), 2);
        Check.due("expiry", b.setOption(2, 3), 5);
        Check.due("policy", b.setOption(3, 0), 1);
    }

    private static int[] look(GradedTopicBroker b) {
        int[] seen = new int[60];
        int n = 0;
        for (int c = 0; c < 3; c++) {
            seen[n++] = b.sessionState(c);
            seen[n++] = b.load(c);
            for (int which = 0; which < 5; which++) {
                seen[n++] = b.length(c, which);
            }
        }
        for (int what = 0; what < 10; what++) {
            seen[n++] = b.total(what);
        }
        seen[n++] = b.retainedCount();
        seen[n++] = b.retained(0, 1);
        seen[n++] = Check.write(b, "a").published();
        seen[n++] = Check.write(b, "b").published();
        seen[n++] = Check.write(b, "a").shareSize(1);
        seen[n++] = Check.write(b, "a").shareMember(1, 0);
        seen[n++] = Check.write(b, "c/+").shareSize(2);
        seen[n++] = b.inFlight(0, 0, 2);
        seen[n++] = b.inFlight(1, 0, 2);
        for (int what = 0; what < 4; what++) {
            seen[n++] = b.subscription(0, 0, what);
            seen[n++] = b.subscription(1, 0, what);
        }
        return seen;
    }

    private static void restoreSessions() {
        GradedTopicBroker b = new GradedTopicBroker();
        b.connect(0, false);
        b.connect(1, false);
        Check.subscribe(b, 0, "a", 2, 0, 0);
        for (int i = 1; i <= 5; i++) {
            Check.publish(b, 1, "a", 2, i, i);
        }
        b.answer(0, 2, 2);
        b.connect(2, false);
        b.advance(3);
        b.disconnect(2);
        b.save();
        b.answer(0, 4, 2);
        b.answer(0, 2, 1);
        b.answer(0, 4, 1);
        b.release(1, 1);
        b.release(1, 5);
        Check.publish(b, 1, "a", 2, 9, 9);
        b.connect(2, false);
        b.advance(30);
        b.disconnect(2);
        b.connect(0, true);
        b.restore();
        int[][] flights = {{1, 2, 1, 2, 0}, {2, 2, 2, 4, 0}, {3, 2, 3, 2, 0}};
        for (int i = 0; i < 3; i++) {
            for (int what = 0; what < 5; what++) {
                Check.due("in flight " + i + " " + what, b.inFlight(0, i, what), flights[i][what]);
            }
        }
        Check.due("kept again", Check.publish(b, 1, "a", 2, 1, 1), 0);
        Check.due("kept again", b.release(1, 5), 1);
        Check.due("not kept again", b.release(1, 9), 0);
        Check.due("pending again", b.length(0, 2), 2);
        b.answer(0, 4, 2);
        Check.due("the first pending one", b.inFlight(0, 2, 2), 4);
        Check.due("the next identifier", b.inFlight(0, 2, 0), 4);
        b.advance(19);
        Check.due("offline since then", b.sessionState(2), 1);
        b.advance(1);
        Check.due("and not longer", b.sessionState(2), 0);
    }

    private static void restoreConnections() {
        GradedTopicBroker b = new GradedTopicBroker();
        b.connect(0, false);
        b.connect(1, false);
        Check.subscribe(b, 1, "w", 2, 0, 0);
        Check.retain(b, 0, "w", 2, 3);
        Check.write(b, "w").setWill(0, 2, true, 6);
        b.release(0, 7);
        for (int i = 0; i < 29; i++) {
            b.release(1, i + 1);
        }
        b.receive(1);
        b.release(1, 40);
        b.save();
        b.advance(1);
        int load = b.load(1);
        Check.write(b, "x").setWill(0, 0, false, 1);
        Check.drain(b, 1);
        b.disconnect(1);
        b.restore();
        Check.due("the clock goes back", b.advance(1), 1);
        Check.due("sent ones are counted again", b.load(1), load);
        for (int i = 0; i < 29; i++) {
            b.receive(1);
            Check.due("queue in order", b.packet(1), i + 1);
        }
        b.receive(1);
        Check.due("the last one", b.packet(1), 40);
        Check.noPacket("no more", b, 1);
        Check.due("the will", b.breakConnection(0), 1);
        Check.packet("as it was", b, 1, Check.parts(0, 2, 2, 6, 0), "w");
        entry(b, 0, 2, 6, 1);
    }

    private static void restoreShares() {
        GradedTopicBroker b = new GradedTopicBroker();
        for (int c = 0; c < 3; c++) {
            b.connect(c, false);
            Check.subscribe(b, c, "a", 1, 1, 0);
        }
        Check.subscribe(b, 2, "+", 0, 3, 0);
        Check.publish(b, 0, "a", 0, 0, 1);
        b.save();
        Check.publish(b, 0, "a", 0, 0, 1);
        Check.publish(b, 0, "a", 0, 0, 1);
        Check.write(b, "a").unsubscribe(1, 1);
        Check.write(b, "+").unsubscribe(2, 3);
        Check.subscribe(b, 0, "b", 0, 2, 0);
        b.restore();
        int[] want = {1, 2, 0};
        for (int i = 0; i < 3; i++) {
            Check.due("member " + i, Check.write(b, "a").shareMember(1, i), want[i]);
        }
        Check.due("the other share", Check.write(b, "+").shareSize(3), 1);
        Check.due("no later share", Check.write(b, "b").shareSize(2), 0);
        Check.due("counted as then", Check.write(b, "a").published(), 1);
        Check.due("both", Check.publish(b, 0, "a", 0, 0, 1), 2);
        Check.due("counted anew", Check.write(b, "a").published(), 2);
    }
}
