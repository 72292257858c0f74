/** A test for each sentence on the network, publication, giving and answers that names a boundary. */
final class EdgesOfMessagesTest {
    public static void main(String[] args) {
        boundsOfPublish();
        ignoredIdentifier();
        thirtyPackets();
        everyKindIsLost();
        resentPacketsAreLost();
        queuesBeginEmpty();
        otherKindsHaveNothing();
        sumOfFlags();
        repeatUpToThirty();
        emptyQueues();
        presentPacketStays();
        charactersOfTopics();
        payloadZero();
        eightRetained();
        eightRetainedByWills();
        retainedAgainAfterRemoval();
        retainedRowsStayApart();
        copiesOfPublication();
        ownMessagesOfOption1();
        windowEdges();
        pendingKeepsBehind();
        eightPending();
        policyChanges();
        pendingOfConnectedClient();
        identifierAfterFifty();
        identifiersInFlightAreSkipped();
        answersThatFit();
        endedMessagesMakeRoom();
        keptIdentifiers();
        keptIdentifiersAreOfTheClient();
        lengthsAtTheEdges();
        flightsAtTheEdges();
        Check.end();
    }

    private static GradedTopicBroker two() {
        GradedTopicBroker b = new GradedTopicBroker();
        b.connect(0, false);
        b.connect(1, false);
        return b;
    }

    /** Publishes by client 1, with grade 1 and a payload. */
    private static int send(GradedTopicBroker b, int payload) {
        int copies = Check.publish(b, 1, "a", 1, 1, payload);
        b.lose(1);
        return copies;
    }

    /** Retains a message by client 1, whose identifier is free again and whose queue is empty then. */
    private static int retain(GradedTopicBroker b, String topic, int grade, int payload) {
        int copies = Check.retain(b, 1, topic, grade, payload);
        b.release(1, 50);
        Check.drain(b, 1);
        return copies;
    }

    // "a payload from 0 to 9999, a grade 0, 1 or 2"; "the identifier, 1 to 50"
    private static void boundsOfPublish() {
        int[] identifiers = {1, 50};
        int[] payloads = {0, 9999};
        for (int grade = 0; grade < 3; grade++) {
            for (int identifier : identifiers) {
                for (int payload : payloads) {
                    GradedTopicBroker b = two();
                    Check.subscribe(b, 0, "a", 2, 0, 0);
                    Check.due("given", Check.publish(b, 1, "a", grade, identifier, payload), 1);
                    Check.packet("copy", b, 0, Check.parts(0, grade > 0 ? 1 : 0, grade, payload, 0), "a");
                    if (grade > 0) {
                        Check.packet("answer", b, 1, Check.parts(grade, identifier, 0, 0, 0), "");
                    }
                    Check.noPacket("no more", b, 1);
                }
            }
        }
    }

    private static void ignoredIdentifier() {
        int[] ignored = {0, 51, -1, Integer.MIN_VALUE, Integer.MAX_VALUE};
        for (int identifier : ignored) {
            GradedTopicBroker b = two();
            Check.subscribe(b, 0, "a", 2, 0, 0);
            Check.due("grade 0", Check.publish(b, 1, "a", 0, identifier, 1), 1);
            Check.badArgument("grade 1", () -> Check.publish(b, 1, "a", 1, identifier, 1));
            Check.badArgument("grade 2", () -> Check.publish(b, 1, "a", 2, identifier, 1));
            Check.due("published once", b.total(0), 1);
            Check.noPacket("no answer", b, 1);
            Check.due("not kept", b.length(1, 3), 0);
        }
    }

    // "with at most 30 packets; a packet that is sent while the queue is full is lost"
    private static void thirtyPackets() {
        GradedTopicBroker b = two();
        Check.subscribe(b, 0, "a", 0, 0, 0);
        for (int i = 1; i <= 32; i++) {
            Check.due("given", Check.publish(b, 1, "a", 0, 0, i), 1);
            Check.due("in the queue", b.length(0, 0), Math.min(i, 30));
            Check.due("lost", b.total(8), Math.max(0, i - 30));
        }
        Check.due("not dropped", b.total(2), 0);
        b.receive(0);
        Check.due("29 left", b.length(0, 0), 29);
        Check.publish(b, 1, "a", 0, 0, 33);
        Check.due("30 again", b.length(0, 0), 30);
        Check.due("none lost more", b.total(8), 2);
        for (int i = 2; i <= 31; i++) {
            b.receive(0);
            Check.due("in order", b.packet(3), i == 31 ? 33 : i);
        }
        Check.noPacket("empty", b, 0);
    }

    private static void everyKindIsLost() {
        GradedTopicBroker b = two();
        Check.subscribe(b, 0, "a", 2, 0, 0);
        Check.publish(b, 1, "a", 2, 1, 1);
        b.lose(0);
        for (int i = 0; i < 30; i++) {
            b.release(0, 50);
        }
        Check.due("full", b.length(0, 0), 30);
        Check.publish(b, 1, "a", 0, 0, 1);
        Check.due("message of grade 0", b.total(8), 1);
        Check.publish(b, 1, "a", 1, 1, 1);
        Check.due("message of grade 1", b.total(8), 2);
        Check.publish(b, 0, "b", 1, 9, 1);
        Check.due("acknowledged", b.total(8), 3);
        Check.publish(b, 0, "b", 2, 9, 1);
        Check.due("received", b.total(8), 4);
        Check.due("duplicate", Check.publish(b, 0, "b", 2, 9, 1), 0);
        Check.due("received again", b.total(8), 5);
        Check.due("answer", b.answer(0, 2, 1), 1);
        Check.due("release", b.total(8), 6);
        Check.due("release by the client", b.release(0, 9), 1);
        Check.due("complete", b.total(8), 7);
        Check.due("all thirty stay", b.length(0, 0), 30);
        Check.due("the states go on: in flight", b.length(0, 1), 2);
        Check.due("the states go on: waits", b.inFlight(0, 0, 3), 4);
        Check.due("the states go on: kept", b.length(0, 3), 0);
        for (int i = 0; i < 30; i++) {
            Check.due("the first thirty", b.lose(0), 4);
        }
        b.advance(1);
        Check.due("lost ones count for the load: 1 + 30 + 7", b.load(0), 9500);
    }

    private static void resentPacketsAreLost() {
        GradedTopicBroker b = two();
        Check.subscribe(b, 0, "a", 2, 0, 0);
        Check.publish(b, 1, "a", 2, 1, 1);
        for (int i = 0; i < 29; i++) {
            b.release(0, 50);
        }
        b.setOption(1, 1);
        b.advance(1);
        Check.due("lost", b.total(8), 1);
        Check.due("sent again all the same", b.total(4), 1);
        Check.due("its latest packet", b.inFlight(0, 0, 4), 1);
        Check.due("30", b.length(0, 0), 30);
    }

    // "The queue is empty when a connection begins, and its packets are lost when the connection ends."
    private static void queuesBeginEmpty() {
        for (int way = 0; way < 3; way++) {
            GradedTopicBroker b = two();
            for (int i = 0; i < 30; i++) {
                b.release(0, 1);
            }
            if (way == 0) {
                b.disconnect(0);
            } else if (way == 1) {
                b.breakConnection(0);
            }
            Check.due("length", b.length(0, 0), way == 2 ? 30 : 0);
            b.connect(0, false);
            Check.due("empty", b.length(0, 0), 0);
            Check.noPacket("empty", b, 0);
            Check.due("not lost by a full queue", b.total(8), 0);
            b.release(0, 2);
            Check.packet("the first one now", b, 0, Check.parts(4, 2, 0, 0, 0), "");
        }
    }

    // "Packets of the other kinds have grade 0, payload 0 and no flags."
    private static void otherKindsHaveNothing() {
        GradedTopicBroker b = two();
        retain(b, "a/b", 2, 9999);
        Check.subscribe(b, 0, "a/b", 2, 0, 0);
        Check.publish(b, 1, "a/b", 2, 7, 9998);
        b.connect(0, false);
        Check.packet("retained and sent again", b, 0, Check.parts(0, 1, 2, 9999, 3), "a/b");
        Check.packet("sent again", b, 0, Check.parts(0, 2, 2, 9998, 1), "a/b");
        b.connect(0, false);
        b.connect(0, true);
        Check.publish(b, 0, "b", 1, 3, 5);
        Check.publish(b, 0, "b", 2, 4, 5);
        b.release(0, 4);
        Check.packet("acknowledged", b, 0, Check.parts(1, 3, 0, 0, 0), "");
        Check.packet("received", b, 0, Check.parts(2, 4, 0, 0, 0), "");
        Check.packet("complete", b, 0, Check.parts(4, 4, 0, 0, 0), "");
        b.connect(0, false);
        Check.subscribe(b, 0, "a/b", 2, 0, 0);
        b.answer(0, 2, 1);
        b.connect(0, false);
        Check.packet("release on resumption", b, 0, Check.parts(3, 1, 0, 0, 0), "");
        Check.noPacket("no more", b, 0);
    }

    // "the flags 1 (duplicate) and 2 (retained), which are added"
    private static void sumOfFlags() {
        GradedTopicBroker b = two();
        retain(b, "a", 1, 5);
        Check.subscribe(b, 0, "a", 1, 0, 0);
        send(b, 6);
        Check.packet("retained", b, 0, Check.parts(0, 1, 1, 5, 2), "a");
        Check.packet("none", b, 0, Check.parts(0, 2, 1, 6, 0), "a");
        for (int i = 0; i < 2; i++) {
            b.connect(0, false);
            Check.packet("both", b, 0, Check.parts(0, 1, 1, 5, 3), "a");
            Check.packet("duplicate", b, 0, Check.parts(0, 2, 1, 6, 1), "a");
        }
        b.setOption(1, 1);
        b.advance(1);
        Check.packet("both", b, 0, Check.parts(0, 1, 1, 5, 3), "a");
        Check.packet("duplicate", b, 0, Check.parts(0, 2, 1, 6, 1), "a");
    }

    // "a copy of it is appended to the queue, if the queue is not full; otherwise the copy is lost"
    private static void repeatUpToThirty() {
        GradedTopicBroker b = two();
        Check.badState("empty", () -> b.repeat(0));
        b.release(0, 7);
        for (int i = 2; i <= 30; i++) {
            Check.due("repeat", b.repeat(0), i);
        }
        Check.due("full", b.repeat(0), 30);
        Check.due("full", b.length(0, 0), 30);
        Check.due("the copy is not counted as lost", b.total(8), 0);
        b.advance(1);
        Check.due("nor as sent", b.load(0), 250);
        for (int i = 0; i < 30; i++) {
            Check.due("copy", b.receive(0), 4);
            Check.due("copy", b.packet(1), 7);
        }
        Check.noPacket("thirty", b, 0);
        Check.badState("empty again", () -> b.repeat(0));
    }

    // "or -1 if the queue is empty, and the present packet stays"
    private static void emptyQueues() {
        GradedTopicBroker b = two();
        Check.due("receive", b.receive(0), -1);
        Check.due("lose", b.lose(0), -1);
        Check.badState("no present packet", () -> b.packet(0));
        b.release(0, 3);
        Check.due("lose", b.lose(0), 4);
        Check.badState("losing is not taking", () -> b.packet(0));
        b.release(0, 4);
        Check.due("receive", b.receive(0), 4);
        Check.due("receive", b.receive(0), -1);
        Check.due("receive of the other one", b.receive(1), -1);
        Check.due("the present packet stays", b.packet(1), 4);
        Check.due("lose", b.lose(0), -1);
        Check.due("the present packet stays", b.packet(1), 4);
    }

    // "The present packet stays when the connection ends."
    private static void presentPacketStays() {
        GradedTopicBroker b = two();
        Check.subscribe(b, 0, "a/b", 0, 0, 0);
        Check.publish(b, 1, "a/b", 0, 0, 3);
        b.receive(0);
        b.disconnect(0);
        b.advance(100);
        b.breakConnection(1);
        b.connect(0, true);
        Check.publish(b, 0, "c", 0, 0, 4);
        int[] want = {0, 0, 0, 3, 0, 3};
        for (int what = 0; what < 6; what++) {
            Check.due("part " + what, b.packet(what), want[what]);
        }
        Check.due("its topic", b.topicCharacter(2), 'b');
    }

    // "if its topic has no such character, or it has no topic"
    private static void charactersOfTopics() {
        String[] topics = {"a", "a/b", "abcdef/ghijkl/mnopqr/012345"};
        GradedTopicBroker b = two();
        Check.subscribe(b, 0, "#", 0, 0, 0);
        for (String topic : topics) {
            Check.publish(b, 1, topic, 0, 0, 0);
            b.receive(0);
            Check.due("length", b.packet(5), topic.length());
            Check.due("first", b.topicCharacter(0), topic.charAt(0));
            Check.due("last", b.topicCharacter(topic.length() - 1), topic.charAt(topic.length() - 1));
            Check.outOfBounds("before", () -> b.topicCharacter(-1));
            Check.outOfBounds("behind", () -> b.topicCharacter(topic.length()));
            Check.outOfBounds("far behind", () -> b.topicCharacter(Integer.MAX_VALUE));
        }
        b.release(0, 1);
        b.receive(0);
        Check.due("no topic", b.packet(5), 0);
        Check.outOfBounds("no topic", () -> b.topicCharacter(0));
        Check.outOfBounds("no topic", () -> b.topicCharacter(-1));
    }

    // "its payload is 0, the retained message of its topic is removed, if there is one"
    private static void payloadZero() {
        GradedTopicBroker b = two();
        Check.subscribe(b, 0, "a", 0, 0, 0);
        Check.due("none to remove", retain(b, "a", 0, 0), 1);
        Check.due("none", b.retainedCount(), 0);
        Check.packet("given all the same", b, 0, Check.parts(0, 0, 0, 0, 0), "a");
        retain(b, "a", 0, 1);
        Check.due("payload 1 is retained", b.retainedCount(), 1);
        Check.publish(b, 1, "a", 0, 0, 0);
        Check.due("not to be retained", b.retainedCount(), 1);
        retain(b, "b", 0, 0);
        Check.due("of another topic", b.retainedCount(), 1);
        Check.drain(b, 0);
        Check.due("given", retain(b, "a", 0, 0), 1);
        Check.due("removed", b.retainedCount(), 0);
        Check.packet("given too", b, 0, Check.parts(0, 0, 0, 0, 0), "a");
        Check.subscribe(b, 0, "a", 0, 0, 0);
        Check.noPacket("nothing retained", b, 0);
    }

    // "but if its topic has no retained message and there are 8 retained messages, it is not retained"
    private static void eightRetained() {
        GradedTopicBroker b = two();
        for (int i = 1; i <= 8; i++) {
            retain(b, "t" + i, i % 3, i);
            Check.due("retained", b.retainedCount(), i);
        }
        retain(b, "t0", 1, 100);
        retain(b, "t9", 1, 100);
        retain(b, "t44", 1, 100);
        Check.due("eight", b.retainedCount(), 8);
        for (int i = 1; i <= 8; i++) {
            Check.due("as they were", b.retained(i - 1, 1), i);
        }
        for (int i = 1; i <= 8; i++) {
            retain(b, "t" + i, 2, 200 + i);
            Check.due("in place of the earlier one", b.retained(i - 1, 1), 200 + i);
            Check.due("its grade", b.retained(i - 1, 0), 2);
        }
        Check.outOfBounds("a ninth one", () -> b.retained(8, 0));
        retain(b, "t9", 1, 0);
        Check.due("payload 0 of a topic without", b.retainedCount(), 8);
        retain(b, "t1", 1, 0);
        Check.due("seven", b.retainedCount(), 7);
        retain(b, "t9", 1, 300);
        Check.due("eight again", b.retainedCount(), 8);
        Check.due("at the end", b.retained(7, 1), 300);
        Check.due("the one before", b.retained(6, 1), 208);
        Check.due("the first one", b.retained(0, 1), 202);
    }

    private static void eightRetainedByWills() {
        GradedTopicBroker b = two();
        for (int i = 1; i <= 9; i++) {
            b.connect(0, true);
            Check.write(b, "t" + i).setWill(0, 0, true, i);
            Check.due("published", b.breakConnection(0), 1);
            Check.due("retained", b.retainedCount(), Math.min(i, 8));
        }
        Check.due("the last one is not", b.retained(7, 1), 8);
        Check.due("published all the same", Check.write(b, "t9").published(), 1);
    }

    private static void retainedAgainAfterRemoval() {
        GradedTopicBroker b = two();
        for (int i = 1; i <= 3; i++) {
            retain(b, "a", 0, i);
            Check.due("one", b.retainedCount(), 1);
            Check.due("this one", b.retained(0, 1), i);
            retain(b, "a", 0, 0);
            Check.due("none", b.retainedCount(), 0);
        }
        retain(b, "a", 0, 4);
        retain(b, "b", 0, 5);
        retain(b, "b", 0, 0);
        retain(b, "b", 0, 6);
        Check.due("two", b.retainedCount(), 2);
        Check.due("the last one again", b.retained(1, 1), 6);
        retain(b, "a", 0, 0);
        retain(b, "a", 0, 7);
        Check.due("two", b.retainedCount(), 2);
        Check.due("the first one again", b.retained(0, 1), 7);
    }

    private static void retainedRowsStayApart() {
        for (int gone = 1; gone <= 8; gone++) {
            for (int back = 0; back <= 9; back += 3) {
                GradedTopicBroker b = two();
                for (int i = 1; i <= 8; i++) {
                    retain(b, "t" + i, 0, i);
                }
                retain(b, "t" + gone, 0, 0);
                retain(b, "t" + back + "x", 0, 50);
                int place = 0;
                for (int i = 0; i <= 9; i++) {
                    if (i >= 1 && i <= 8 && i != gone) {
                        Check.due("an old one", b.retained(place, 1), i);
                        place++;
                    }
                    if (i == back) {
                        Check.due("the new one", b.retained(place, 1), 50);
                        place++;
                    }
                }
                Check.due("all seen", b.retainedCount(), place);
            }
        }
    }

    // "the message is given to the session once, with the lesser one of its grade and the greatest grade of these"
    private static void copiesOfPublication() {
        for (int grade = 0; grade < 3; grade++) {
            for (int low = 0; low < 3; low++) {
                for (int high = 0; high < 3; high++) {
                    GradedTopicBroker b = two();
                    Check.subscribe(b, 0, "a", low, 0, 0);
                    Check.subscribe(b, 0, "+", high, 0, 0);
                    Check.subscribe(b, 0, "b", 2, 0, 0);
                    Check.subscribe(b, 0, "#", low, 1, 0);
                    Check.due("two copies", Check.publish(b, 1, "a", grade, 1, 1), 2);
                    b.receive(0);
                    Check.due("by the subscriptions", b.packet(2), Math.min(grade, Math.max(low, high)));
                    b.receive(0);
                    Check.due("by the share", b.packet(2), Math.min(grade, low));
                }
            }
        }
        GradedTopicBroker b = two();
        Check.due("no session wants it", Check.publish(b, 0, "a", 2, 1, 1), 0);
        Check.due("none given", b.total(1), 0);
        Check.due("published", b.total(0), 1);
    }

    // "except those with option 1 if this client published the message"; "which is not possible with a group"
    private static void ownMessagesOfOption1() {
        GradedTopicBroker b = two();
        Check.subscribe(b, 0, "a", 2, 0, 1);
        Check.due("not to itself", Check.publish(b, 0, "a", 0, 0, 1), 0);
        Check.due("audience of itself", Check.write(b, "a").audience(0), 0);
        Check.due("of the other one", Check.publish(b, 1, "a", 0, 0, 1), 1);
        Check.due("audience of the other one", Check.write(b, "a").audience(1), 1);
        Check.subscribe(b, 0, "#", 1, 3, 0);
        Check.due("through a share", Check.publish(b, 0, "a", 0, 0, 1), 1);
        Check.subscribe(b, 0, "+", 0, 0, 0);
        Check.drain(b, 0);
        Check.due("by another subscription", Check.publish(b, 0, "a", 2, 1, 1), 2);
        b.receive(0);
        Check.due("the grade of the one with option 1 does not count", b.packet(2), 0);
        Check.write(b, "a").setWill(0, 2, false, 1);
        b.breakConnection(0);
        Check.due("its will is its message: one dropped, one pending", b.length(0, 2), 1);
    }

    // "fewer messages are in flight than the window": window 1 to 5
    private static void windowEdges() {
        for (int window = 1; window <= 5; window++) {
            GradedTopicBroker b = two();
            b.setOption(0, window);
            Check.subscribe(b, 0, "a", 1, 0, 0);
            for (int i = 1; i <= window + 1; i++) {
                send(b, i);
                Check.due("in flight", b.length(0, 1), Math.min(i, window));
                Check.due("pending", b.length(0, 2), i > window ? 1 : 0);
                Check.due("sent", b.length(0, 0), Math.min(i, window));
            }
            b.answer(0, 1, 1);
            Check.due("the pending one", b.inFlight(0, window - 1, 2), window + 1);
            Check.due("none pending", b.length(0, 2), 0);
        }
    }

    // "and no messages are pending"; "Pending messages stay pending, also when the window becomes greater, until a
    // message ends or the client connects, and new ones are pending behind them."
    private static void pendingKeepsBehind() {
        for (int way = 0; way < 2; way++) {
            GradedTopicBroker b = two();
            b.setOption(0, 1);
            Check.subscribe(b, 0, "a", 2, 0, 0);
            send(b, 1);
            send(b, 2);
            b.setOption(0, 5);
            Check.due("pending stays", b.length(0, 2), 1);
            b.advance(1);
            Check.due("a tick does nothing", b.length(0, 2), 1);
            send(b, 3);
            Check.due("behind it", b.length(0, 2), 2);
            Check.publish(b, 1, "a", 0, 0, 4);
            Check.due("grade 0 is not pending", b.length(0, 2), 2);
            Check.due("an answer that ends nothing", b.answer(0, 1, 9), 0);
            Check.due("pending stays", b.length(0, 2), 2);
            if (way == 0) {
                b.answer(0, 1, 1);
            } else {
                b.connect(0, false);
            }
            Check.due("in flight", b.length(0, 1), 2 + way);
            Check.due("in order", b.inFlight(0, way, 2), 2);
            Check.due("in order", b.inFlight(0, 1 + way, 2), 3);
            Check.due("none pending", b.length(0, 2), 0);
        }
    }

    // "if 8 messages are pending, then, with overflow policy 0, the new message is dropped, and with policy 1, the
    // first pending one is dropped and the new one is pending"
    private static void eightPending() {
        for (int policy = 0; policy < 2; policy++) {
            GradedTopicBroker b = two();
            b.setOption(3, policy);
            Check.subscribe(b, 0, "a", 1, 0, 0);
            b.disconnect(0);
            for (int i = 1; i <= 10; i++) {
                Check.due("given", send(b, i), 1);
                Check.due("pending", b.length(0, 2), Math.min(i, 8));
                Check.due("dropped", b.total(2), Math.max(0, i - 8));
            }
            Check.due("all given", b.total(1), 10);
            b.connect(0, false);
            for (int i = 1; i <= 8; i++) {
                Check.due("those that stayed", b.inFlight(0, 0, 2), i + 2 * policy);
                Check.due("answered", b.answer(0, 1, i), 1);
            }
            Check.due("no more", b.length(0, 1), 0);
        }
    }

    // "A change takes effect at the next event for which the option is used."
    private static void policyChanges() {
        GradedTopicBroker b = two();
        Check.subscribe(b, 0, "a", 1, 0, 0);
        b.disconnect(0);
        for (int i = 1; i <= 9; i++) {
            send(b, i);
        }
        b.setOption(3, 1);
        Check.due("nothing happens by the change", b.length(0, 2), 8);
        send(b, 10);
        b.setOption(3, 0);
        send(b, 11);
        Check.due("three dropped", b.total(2), 3);
        b.setOption(0, 5);
        b.connect(0, false);
        int[] want = {2, 3, 4, 5, 6, 7, 8, 10};
        for (int i = 0; i < 8; i++) {
            Check.due("those that stayed", b.inFlight(0, 0, 2), want[i]);
            b.answer(0, 1, i + 1);
        }
    }

    private static void pendingOfConnectedClient() {
        for (int policy = 0; policy < 2; policy++) {
            GradedTopicBroker b = two();
            b.setOption(3, policy);
            b.setOption(0, 1);
            Check.subscribe(b, 0, "a", 1, 0, 0);
            for (int i = 1; i <= 9; i++) {
                send(b, i);
            }
            Check.due("full", b.length(0, 2), 8);
            Check.due("none dropped", b.total(2), 0);
            send(b, 10);
            Check.due("one dropped", b.total(2), 1);
            Check.publish(b, 1, "a", 0, 0, 11);
            Check.due("grade 0 is sent", b.length(0, 0), 2);
            Check.due("and not dropped", b.total(2), 1);
            b.answer(0, 1, 1);
            Check.due("the first one", b.inFlight(0, 0, 2), 2 + policy);
            send(b, 12);
            Check.due("room for one", b.total(2), 1);
        }
    }

    // "where 1 follows 50"
    private static void identifierAfterFifty() {
        GradedTopicBroker b = two();
        Check.subscribe(b, 0, "a", 1, 0, 0);
        for (int i = 1; i <= 70; i++) {
            send(b, i);
            int want = (i - 1) % 50 + 1;
            b.receive(0);
            Check.due("identifier", b.packet(1), want);
            Check.due("answer", b.answer(0, 1, want), 1);
        }
    }

    // "and again as long as a message of the session is in flight with it"
    private static void identifiersInFlightAreSkipped() {
        int[][] stay = {{1}, {2}, {1, 2}, {1, 2, 3, 4}, {2, 4}, {50}, {49, 50}, {1, 50}, {3, 5}};
        int[][] then = {{2, 3}, {1, 3}, {3, 4}, {5, 6}, {1, 3, 5}, {1, 2}, {1, 2}, {2, 3}, {1, 2, 4, 6}};
        for (int k = 0; k < stay.length; k++) {
            GradedTopicBroker b = two();
            b.setOption(0, 5);
            Check.subscribe(b, 0, "a", 1, 0, 0);
            for (int i = 1; i <= 50; i++) {
                identifierOfNext(b, i);
                if (!holds(stay[k], i)) {
                    Check.due("answer", b.answer(0, 1, i), 1);
                }
            }
            Check.due("those that stay", b.length(0, 1), stay[k].length);
            for (int want : then[k]) {
                identifierOfNext(b, want);
                Check.due("answer", b.answer(0, 1, want), 1);
            }
        }
        GradedTopicBroker b = two();
        Check.subscribe(b, 0, "a", 1, 0, 0);
        identifierOfNext(b, 1);
        for (int i = 2; i <= 50; i++) {
            identifierOfNext(b, i);
            Check.due("answer", b.answer(0, 1, i), 1);
        }
        Check.due("1 ends after the next identifier became 2", b.answer(0, 1, 1), 1);
        identifierOfNext(b, 2);
        identifierOfNext(b, 3);
    }

    private static boolean holds(int[] identifiers, int identifier) {
        for (int one : identifiers) {
            if (one == identifier) {
                return true;
            }
        }
        return false;
    }

    private static void identifierOfNext(GradedTopicBroker b, int want) {
        send(b, 1);
        b.receive(0);
        Check.due("identifier", b.packet(1), want);
    }

    // "An answer that fits no message in flight is ignored."
    private static void answersThatFit() {
        int[] kinds = {1, 2, 4};
        for (int grade = 1; grade < 3; grade++) {
            for (int received = 0; received < grade; received++) {
                for (int kind : kinds) {
                    GradedTopicBroker b = two();
                    Check.subscribe(b, 0, "a", 2, 0, 0);
                    Check.publish(b, 1, "a", grade, 1, 5);
                    if (received == 1) {
                        b.answer(0, 2, 1);
                    }
                    Check.drain(b, 0);
                    boolean ends = grade == 1 ? kind == 1 : kind == 4 && received == 1;
                    boolean fits = ends || grade == 2 && kind == 2;
                    Check.due("other identifier", b.answer(0, kind, 2), 0);
                    Check.due("other client", b.answer(1, kind, 1), 0);
                    Check.due("kind " + kind + " of grade " + grade, b.answer(0, kind, 1), fits ? 1 : 0);
                    Check.due("ended", b.total(9), ends ? 1 : 0);
                    Check.due("left", b.length(0, 1), ends ? 0 : 1);
                    Check.due("a release packet", b.length(0, 0), fits && !ends ? 1 : 0);
                    if (!ends) {
                        int waits = grade == 1 ? 1 : received == 1 || kind == 2 ? 4 : 2;
                        Check.due("waits for", b.inFlight(0, 0, 3), waits);
                    }
                }
            }
        }
    }

    // "When a message is not in flight any more ... pending messages get in flight in their order as long as the
    // client is connected and fewer messages are in flight than the window."
    private static void endedMessagesMakeRoom() {
        GradedTopicBroker b = two();
        b.setOption(0, 2);
        Check.subscribe(b, 0, "a", 2, 0, 0);
        for (int i = 1; i <= 6; i++) {
            Check.publish(b, 1, "a", 2, i, i);
        }
        Check.drain(b, 0);
        b.answer(0, 2, 1);
        Check.due("a received one is still in flight", b.length(0, 2), 4);
        b.lose(0);
        b.answer(0, 4, 1);
        Check.due("one in", b.length(0, 2), 3);
        Check.packet("one in", b, 0, Check.parts(0, 3, 2, 3, 0), "a");
        Check.noPacket("only one", b, 0);
        b.setOption(0, 1);
        b.answer(0, 2, 2);
        b.answer(0, 4, 2);
        Check.due("none in: the window is full", b.length(0, 2), 3);
        b.setOption(0, 4);
        b.answer(0, 2, 3);
        b.answer(0, 4, 3);
        Check.due("all three in", b.length(0, 2), 0);
        for (int i = 0; i < 3; i++) {
            Check.due("in order", b.inFlight(0, i, 2), 4 + i);
            Check.due("identifier", b.inFlight(0, i, 0), 4 + i);
        }
    }

    // "only if the session does not keep this identifier already": 1 to 50
    private static void keptIdentifiers() {
        GradedTopicBroker b = two();
        Check.subscribe(b, 0, "a", 0, 0, 0);
        for (int i = 1; i <= 50; i++) {
            Check.due("published", Check.publish(b, 1, "a", 2, i, 1), 1);
            b.lose(0);
            b.lose(1);
        }
        Check.due("fifty", b.length(1, 3), 50);
        int[] edges = {1, 2, 49, 50};
        for (int identifier : edges) {
            Check.due("suppressed", Check.publish(b, 1, "a", 2, identifier, 1), 0);
            Check.packet("received", b, 1, Check.parts(2, identifier, 0, 0, 0), "");
            Check.due("released", b.release(1, identifier), 1);
            Check.packet("complete", b, 1, Check.parts(4, identifier, 0, 0, 0), "");
            Check.due("not kept", b.release(1, identifier), 0);
            b.lose(1);
        }
        Check.due("suppressed", b.total(3), 4);
        Check.due("left", b.length(1, 3), 46);
        Check.due("published again", Check.publish(b, 1, "a", 2, 50, 1), 1);
        Check.due("kept again", b.length(1, 3), 47);
        Check.due("not those of others", b.length(0, 3), 0);
    }

    private static void keptIdentifiersAreOfTheClient() {
        GradedTopicBroker b = two();
        Check.publish(b, 0, "a", 2, 1, 1);
        Check.due("of another session", b.release(1, 1), 0);
        Check.publish(b, 0, "a", 1, 2, 1);
        Check.due("grade 1 keeps none", b.length(0, 3), 1);
        b.connect(0, false);
        Check.due("of the session, not of the connection", b.release(0, 1), 1);
        Check.publish(b, 0, "a", 2, 1, 1);
        b.connect(0, true);
        Check.due("gone with the session", b.release(0, 1), 0);
        Check.due("messages", b.total(0), 3);
    }

    // "Returns the length, 0 if there is no connection or session."
    private static void lengthsAtTheEdges() {
        GradedTopicBroker b = new GradedTopicBroker();
        for (int which = 0; which < 5; which++) {
            Check.due("no session", b.length(0, which), 0);
        }
        b.connect(0, false);
        b.connect(1, false);
        b.setOption(0, 5);
        for (int i = 0; i < 6; i++) {
            Check.subscribe(b, 0, "a" + "/+".repeat(i % 2), 1, i / 2, 0);
        }
        for (int i = 0; i < 5; i++) {
            Check.publish(b, 1, "a", 1, 1, 1);
        }
        for (int i = 1; i <= 50; i++) {
            Check.publish(b, 0, "b", 2, i, 1);
        }
        int[] full = {30, 5, 8, 50, 6};
        for (int which = 0; which < 5; which++) {
            Check.due("full: " + which, b.length(0, which), full[which]);
        }
        b.disconnect(0);
        int[] offline = {0, 5, 8, 50, 6};
        for (int which = 0; which < 5; which++) {
            Check.due("offline: " + which, b.length(0, which), offline[which]);
        }
    }

    // "the place of the message in the order in which they got in flight, from 0"
    private static void flightsAtTheEdges() {
        GradedTopicBroker b = two();
        b.setOption(0, 5);
        Check.subscribe(b, 0, "a", 2, 0, 0);
        Check.outOfBounds("none", () -> b.inFlight(0, 0, 0));
        for (int i = 1; i <= 5; i++) {
            b.advance(1);
            Check.publish(b, 1, "a", 1 + i % 2, i, 1000 * i);
            int last = i - 1;
            int[] want = {i, 1 + i % 2, 1000 * i, 1 + i % 2, i};
            for (int what = 0; what < 5; what++) {
                Check.due("part " + what, b.inFlight(0, last, what), want[what]);
            }
            Check.outOfBounds("behind", () -> b.inFlight(0, last + 1, 0));
        }
        b.answer(0, 1, 2);
        int[] left = {1, 3, 4, 5};
        for (int i = 0; i < 4; i++) {
            Check.due("those behind move up", b.inFlight(0, i, 0), left[i]);
        }
        Check.outOfBounds("four", () -> b.inFlight(0, 4, 0));
        b.disconnect(0);
        Check.due("of an offline session", b.inFlight(0, 3, 2), 5000);
    }
}
