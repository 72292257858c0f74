/** Promises 16 to 19: publish, release, answer, audience. */
final class MessageTest {
    public static void main(String[] args) {
        grades();
        wrongCalls();
        answersOfTheBroker();
        duplicates();
        oneCopyForEachSession();
        orderOfClients();
        ownMessages();
        gradeZeroPassesPending();
        window();
        overflow();
        answers();
        identifiers();
        identifiersWrap();
        audience();
        Check.end();
    }

    private static void grades() {
        for (int grade = 0; grade < 3; grade++) {
            for (int most = 0; most < 3; most++) {
                GradedTopicBroker b = new GradedTopicBroker();
                b.connect(0, false);
                b.connect(1, true);
                Check.subscribe(b, 0, "a/b", most, 0, 0);
                Check.due("one copy", Check.publish(b, 1, "a/b", grade, 9, 77), 1);
                int lesser = Math.min(grade, most);
                int identifier = lesser == 0 ? 0 : 1;
                Check.packet("the lesser grade", b, 0, Check.parts(0, identifier, lesser, 77, 0), "a/b");
                Check.due("in flight", b.length(0, 1), identifier);
                if (lesser > 0) {
                    int[] want = {1, lesser, 77, lesser, 0};
                    for (int what = 0; what < 5; what++) {
                        Check.due("in flight: " + what, b.inFlight(0, 0, what), want[what]);
                    }
                }
            }
        }
    }

    private static void wrongCalls() {
        GradedTopicBroker b = new GradedTopicBroker();
        b.connect(0, false);
        Check.outOfBounds("client 6", () -> Check.publish(b, 6, "a", 0, 0, 0));
        Check.outOfBounds("client -1", () -> Check.publish(b, -1, "", 9, 0, 0));
        Check.badArgument("topic", () -> Check.publish(b, 0, "#", 0, 0, 0));
        Check.badArgument("empty topic", () -> Check.publish(b, 0, "", 0, 0, 0));
        Check.badArgument("grade 3", () -> Check.publish(b, 0, "a", 3, 1, 0));
        Check.badArgument("grade -1", () -> Check.publish(b, 0, "a", -1, 1, 0));
        Check.badArgument("payload 10000", () -> Check.publish(b, 0, "a", 0, 1, 10000));
        Check.badArgument("payload -1", () -> Check.publish(b, 0, "a", 0, 1, -1));
        for (int grade = 1; grade < 3; grade++) {
            int g = grade;
            Check.badArgument("identifier 0", () -> Check.publish(b, 0, "a", g, 0, 0));
            Check.badArgument("identifier 51", () -> Check.publish(b, 0, "a", g, 51, 0));
            Check.due("identifier 50", Check.publish(b, 0, "a", g, 50, 0), 0);
        }
        Check.due("ignored identifier", Check.publish(b, 0, "a", 0, -7, 9999), 0);
        Check.badState("offline", () -> Check.publish(b, 1, "a", 0, 0, 0));
        Check.badArgument("offline with identifier 0", () -> Check.publish(b, 1, "a", 1, 0, 0));
        Check.due("published", b.total(0), 3);
        Check.outOfBounds("release: client", () -> b.release(6, 0));
        Check.badArgument("release: 0", () -> b.release(1, 0));
        Check.badArgument("release: 51", () -> b.release(0, 51));
        Check.badState("release: offline", () -> b.release(1, 50));
        Check.outOfBounds("answer: client", () -> b.answer(-1, 0, 0));
        int[] kinds = {-1, 0, 3, 5, 6, Integer.MAX_VALUE};
        for (int kind : kinds) {
            Check.badArgument("answer: kind " + kind, () -> b.answer(1, kind, 1));
        }
        Check.badArgument("answer: 0", () -> b.answer(1, 1, 0));
        Check.badArgument("answer: 51", () -> b.answer(0, 4, 51));
        Check.badState("answer: offline", () -> b.answer(1, 4, 50));
        Check.outOfBounds("audience: client", () -> Check.write(b, "#").audience(6));
        Check.badArgument("audience: topic", () -> Check.write(b, "#").audience(0));
    }

    private static void answersOfTheBroker() {
        GradedTopicBroker b = new GradedTopicBroker();
        b.connect(0, false);
        Check.subscribe(b, 0, "a", 2, 0, 0);
        Check.publish(b, 0, "a", 0, 9, 1);
        Check.publish(b, 0, "a", 1, 8, 2);
        Check.publish(b, 0, "a", 2, 7, 3);
        Check.packet("grade 0", b, 0, Check.parts(0, 0, 0, 1, 0), "a");
        Check.packet("grade 1", b, 0, Check.parts(0, 1, 1, 2, 0), "a");
        Check.packet("acknowledged after it", b, 0, Check.parts(1, 8, 0, 0, 0), "");
        Check.packet("grade 2", b, 0, Check.parts(0, 2, 2, 3, 0), "a");
        Check.packet("received after it", b, 0, Check.parts(2, 7, 0, 0, 0), "");
        Check.noPacket("no more", b, 0);
        Check.due("kept", b.length(0, 3), 1);
        Check.due("release", b.release(0, 7), 1);
        Check.packet("complete", b, 0, Check.parts(4, 7, 0, 0, 0), "");
        Check.due("release again", b.release(0, 7), 0);
        Check.packet("complete again", b, 0, Check.parts(4, 7, 0, 0, 0), "");
        Check.due("kept no more", b.length(0, 3), 0);
    }

    private static void duplicates() {
        GradedTopicBroker b = new GradedTopicBroker();
        b.connect(0, false);
        b.connect(1, false);
        Check.subscribe(b, 1, "#", 0, 0, 0);
        Check.due("first", Check.publish(b, 0, "a", 2, 3, 1), 1);
        Check.due("duplicate of another topic", Check.publish(b, 0, "b", 2, 3, 2), 0);
        Check.due("suppressed", b.total(3), 1);
        Check.due("published", b.total(0), 1);
        Check.due("not of topic b", Check.write(b, "b").published(), 0);
        Check.due("nor retained", Check.write(b, "b").publish(0, 2, 3, true, 5), 0);
        Check.due("none", b.retainedCount(), 0);
        Check.due("received each time", b.length(0, 0), 3);
        Check.due("grade 1 is not looked at", Check.publish(b, 0, "a", 1, 3, 1), 1);
        Check.due("another client", Check.publish(b, 1, "a", 2, 3, 1), 1);
        Check.due("another identifier", Check.publish(b, 0, "a", 2, 4, 1), 1);
        Check.due("kept", b.length(0, 3), 2);
        b.disconnect(0);
        b.connect(0, false);
        Check.due("kept by the session", Check.publish(b, 0, "a", 2, 3, 1), 0);
        b.release(0, 3);
        Check.due("released", Check.publish(b, 0, "a", 2, 3, 1), 1);
        for (int i = 1; i <= 50; i++) {
            Check.publish(b, 0, "a", 2, i, 1);
        }
        Check.due("all kept", b.length(0, 3), 50);
        Check.due("suppressed now", b.total(3), 5);
    }

    private static void oneCopyForEachSession() {
        GradedTopicBroker b = new GradedTopicBroker();
        b.connect(0, false);
        b.connect(1, false);
        Check.subscribe(b, 0, "a/#", 0, 0, 0);
        Check.subscribe(b, 0, "+/b", 2, 0, 0);
        Check.subscribe(b, 0, "a/b", 1, 0, 0);
        Check.subscribe(b, 0, "c", 2, 0, 0);
        Check.due("once", Check.publish(b, 1, "a/b", 2, 1, 5), 1);
        Check.packet("with the greatest grade", b, 0, Check.parts(0, 1, 2, 5, 0), "a/b");
        Check.due("only one matches", Check.publish(b, 1, "a/c", 2, 2, 5), 1);
        Check.packet("with its grade", b, 0, Check.parts(0, 0, 0, 5, 0), "a/c");
        Check.subscribe(b, 0, "a/b", 1, 2, 0);
        Check.due("once more by a share", Check.publish(b, 1, "a/b", 2, 3, 5), 2);
        Check.due("copies", b.total(1), 4);
    }

    private static void orderOfClients() {
        GradedTopicBroker b = new GradedTopicBroker();
        b.connect(5, false);
        b.connect(0, false);
        Check.subscribe(b, 0, "+", 0, 0, 0);
        Check.subscribe(b, 5, "+", 0, 0, 0);
        Check.due("two", Check.publish(b, 5, "a", 0, 0, 5), 2);
        Check.due("one each", b.length(0, 0), 1);
        Check.due("one each", b.length(5, 0), 1);
    }

    private static void ownMessages() {
        GradedTopicBroker b = new GradedTopicBroker();
        b.connect(0, false);
        b.connect(1, false);
        Check.subscribe(b, 0, "a", 2, 0, 1);
        Check.subscribe(b, 1, "a", 2, 0, 1);
        Check.due("to the other one", Check.publish(b, 0, "a", 0, 0, 5), 1);
        Check.noPacket("not to itself", b, 0);
        Check.subscribe(b, 0, "+", 1, 0, 0);
        Check.due("by another subscription", Check.publish(b, 0, "a", 2, 1, 5), 2);
        Check.packet("with its grade", b, 0, Check.parts(0, 1, 1, 5, 0), "a");
        Check.due("from the other one", Check.publish(b, 1, "a", 2, 1, 5), 1);
        Check.due("with the grade of the first", b.inFlight(0, 1, 1), 2);
    }

    private static void gradeZeroPassesPending() {
        GradedTopicBroker b = new GradedTopicBroker();
        b.connect(0, false);
        b.connect(1, false);
        b.setOption(0, 1);
        Check.subscribe(b, 0, "a", 2, 0, 0);
        Check.publish(b, 1, "a", 1, 1, 1);
        Check.publish(b, 1, "a", 2, 1, 2);
        Check.publish(b, 1, "a", 0, 1, 3);
        Check.packet("in flight", b, 0, Check.parts(0, 1, 1, 1, 0), "a");
        Check.packet("grade 0 at once", b, 0, Check.parts(0, 0, 0, 3, 0), "a");
        Check.noPacket("the other one is pending", b, 0);
        Check.due("pending", b.length(0, 2), 1);
        b.disconnect(0);
        Check.publish(b, 1, "a", 0, 1, 4);
        Check.due("dropped", b.total(2), 1);
        Check.due("given all the same", b.total(1), 4);
    }

    private static void window() {
        GradedTopicBroker b = new GradedTopicBroker();
        b.connect(0, false);
        b.connect(1, false);
        Check.subscribe(b, 0, "a", 2, 0, 0);
        for (int i = 1; i <= 5; i++) {
            Check.publish(b, 1, "a", 1, 1, i);
        }
        Check.due("in flight", b.length(0, 1), 3);
        Check.due("pending", b.length(0, 2), 2);
        b.setOption(0, 5);
        Check.due("pending stays", b.length(0, 2), 2);
        Check.publish(b, 1, "a", 1, 1, 6);
        Check.due("new ones are pending behind", b.length(0, 2), 3);
        Check.due("in flight as before", b.length(0, 1), 3);
        b.answer(0, 1, 2);
        Check.due("up to the window", b.length(0, 1), 5);
        Check.due("none pending", b.length(0, 2), 0);
        int[] payloads = {1, 3, 4, 5, 6};
        int[] identifiers = {1, 3, 4, 5, 6};
        for (int i = 0; i < 5; i++) {
            Check.due("payload", b.inFlight(0, i, 2), payloads[i]);
            Check.due("identifier", b.inFlight(0, i, 0), identifiers[i]);
        }
        b.setOption(0, 2);
        Check.publish(b, 1, "a", 1, 1, 7);
        b.answer(0, 1, 1);
        b.answer(0, 1, 3);
        b.answer(0, 1, 4);
        Check.due("smaller window", b.length(0, 1), 2);
        Check.due("still pending", b.length(0, 2), 1);
        b.answer(0, 1, 5);
        Check.due("room", b.length(0, 2), 0);
        Check.due("in flight", b.inFlight(0, 1, 2), 7);
    }

    private static void overflow() {
        for (int policy = 0; policy < 2; policy++) {
            GradedTopicBroker b = new GradedTopicBroker();
            b.setOption(3, policy);
            b.connect(0, false);
            b.connect(1, false);
            Check.subscribe(b, 0, "a", 2, 0, 0);
            b.disconnect(0);
            for (int i = 1; i <= 8; i++) {
                Check.publish(b, 1, "a", 1, 1, i);
            }
            Check.due("none dropped", b.total(2), 0);
            Check.due("given", Check.publish(b, 1, "a", 1, 1, 9), 1);
            Check.due("one dropped", b.total(2), 1);
            Check.due("pending", b.length(0, 2), 8);
            Check.publish(b, 1, "a", 2, 1, 10);
            b.setOption(0, 5);
            b.connect(0, false);
            for (int i = 0; i < 5; i++) {
                Check.due("first ones", b.inFlight(0, 0, 2), i + 1 + 2 * policy);
                b.answer(0, 1, i + 1);
            }
            Check.due("all in flight", b.length(0, 2), 0);
        }
    }

    private static void answers() {
        GradedTopicBroker b = new GradedTopicBroker();
        b.connect(0, false);
        b.connect(1, false);
        Check.subscribe(b, 0, "a", 2, 0, 0);
        Check.publish(b, 1, "a", 1, 1, 1);
        Check.publish(b, 1, "a", 2, 1, 2);
        Check.drain(b, 0);
        b.advance(3);
        Check.due("grade 1 is not received", b.answer(0, 2, 1), 0);
        Check.due("nor completed", b.answer(0, 4, 1), 0);
        Check.due("grade 2 is not acknowledged", b.answer(0, 1, 2), 0);
        Check.due("nor completed before it is received", b.answer(0, 4, 2), 0);
        Check.due("no such identifier", b.answer(0, 1, 3), 0);
        Check.due("of another client", b.answer(1, 1, 1), 0);
        Check.noPacket("nothing sent", b, 0);
        Check.due("waits for a receipt", b.inFlight(0, 1, 3), 2);
        Check.due("received", b.answer(0, 2, 2), 1);
        Check.due("waits for a completion", b.inFlight(0, 1, 3), 4);
        Check.due("the release is its latest packet", b.inFlight(0, 1, 4), 3);
        Check.due("the other one is not sent", b.inFlight(0, 0, 4), 0);
        Check.packet("release", b, 0, Check.parts(3, 2, 0, 0, 0), "");
        b.advance(1);
        Check.due("received again", b.answer(0, 2, 2), 1);
        Check.due("still waits", b.inFlight(0, 1, 3), 4);
        Check.due("sent now", b.inFlight(0, 1, 4), 4);
        Check.packet("release again", b, 0, Check.parts(3, 2, 0, 0, 0), "");
        Check.due("this is not sending again by a timeout", b.total(4), 0);
        Check.due("not acknowledged now either", b.answer(0, 1, 2), 0);
        Check.due("none ended", b.total(9), 0);
        Check.due("acknowledged", b.answer(0, 1, 1), 1);
        Check.due("one ended", b.total(9), 1);
        Check.due("not twice", b.answer(0, 1, 1), 0);
        Check.due("completed", b.answer(0, 4, 2), 1);
        Check.due("two ended", b.total(9), 2);
        Check.due("not twice", b.answer(0, 4, 2), 0);
        Check.due("not received any more", b.answer(0, 2, 2), 0);
        Check.due("none in flight", b.length(0, 1), 0);
        Check.noPacket("nothing sent", b, 0);
    }

    private static void identifiers() {
        GradedTopicBroker b = new GradedTopicBroker();
        b.connect(0, false);
        Check.subscribe(b, 0, "a", 1, 0, 0);
        for (int i = 1; i <= 3; i++) {
            Check.publish(b, 0, "a", 1, 9, i);
        }
        b.answer(0, 1, 1);
        Check.publish(b, 0, "a", 1, 9, 4);
        Check.due("the next one, not the free one", b.inFlight(0, 2, 0), 4);
        Check.publish(b, 0, "a", 0, 9, 5);
        b.answer(0, 1, 2);
        Check.publish(b, 0, "a", 1, 9, 6);
        Check.due("grade 0 takes none", b.inFlight(0, 2, 0), 5);
        b.disconnect(0);
        b.connect(0, false);
        b.answer(0, 1, 3);
        Check.publish(b, 0, "a", 1, 9, 7);
        Check.due("goes on in the session", b.inFlight(0, 2, 0), 6);
    }

    private static void identifiersWrap() {
        GradedTopicBroker b = new GradedTopicBroker();
        b.connect(0, false);
        Check.subscribe(b, 0, "a", 1, 0, 0);
        Check.publish(b, 0, "a", 1, 9, 1);
        Check.publish(b, 0, "a", 1, 9, 2);
        for (int i = 3; i <= 50; i++) {
            Check.publish(b, 0, "a", 1, 9, i);
            Check.due("identifier", b.inFlight(0, 2, 0), i);
            Check.due("answer", b.answer(0, 1, i), 1);
            Check.drain(b, 0);
        }
        Check.publish(b, 0, "a", 1, 9, 99);
        Check.due("1 and 2 are in flight", b.inFlight(0, 2, 0), 3);
        b.answer(0, 1, 2);
        Check.publish(b, 0, "a", 1, 9, 99);
        Check.due("4 follows", b.inFlight(0, 2, 0), 4);
    }

    private static void audience() {
        GradedTopicBroker b = new GradedTopicBroker();
        for (int c = 0; c < 4; c++) {
            b.connect(c, false);
        }
        Check.subscribe(b, 0, "a", 2, 0, 1);
        Check.subscribe(b, 1, "+", 2, 0, 0);
        Check.subscribe(b, 1, "a", 2, 0, 0);
        Check.subscribe(b, 2, "a", 2, 3, 0);
        Check.subscribe(b, 3, "a", 2, 3, 0);
        Check.subscribe(b, 3, "#", 2, 3, 0);
        b.disconnect(1);
        Check.due("of client 0", Check.write(b, "a").audience(0), 3);
        Check.due("of client 2", Check.write(b, "a").audience(2), 4);
        Check.due("of a client without a session", Check.write(b, "a").audience(5), 4);
        Check.due("of another topic", Check.write(b, "b").audience(0), 2);
        Check.due("of a longer topic", Check.write(b, "b/c").audience(0), 1);
        Check.due("nothing was published", b.total(0), 0);
        Check.due("nothing was given", b.total(1), 0);
        Check.due("no member was chosen", Check.write(b, "a").shareMember(3, 0), 2);
        Check.due("no topic of it", Check.write(b, "a").published(), 0);
        Check.due("as many as publish gives", Check.publish(b, 0, "a", 1, 1, 1), 3);
    }
}
