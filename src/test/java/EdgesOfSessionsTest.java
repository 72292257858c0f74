/** A test for each sentence on clients, sessions, wills, subscriptions and shares that names a boundary. */
final class EdgesOfSessionsTest {
    public static void main(String[] args) {
        allClientsCanDoAll();
        oneSessionAClient();
        cleanSessionsEndWithTheConnection();
        removalTakesSubscriptions();
        removalTakesEverything();
        resumptionReturns();
        willsOfConnections();
        willsOfTakeovers();
        boundsOfWills();
        subscriptionsUpToSix();
        subscriptionsOfEachGroup();
        replacingKeepsThePlace();
        optionsOfSubscriptions();
        ascendingOrderOfTopics();
        unsubscribingTheFirstAndTheLast();
        numberOfLevels();
        relationsAtTheEdges();
        shareComesAndGoes();
        shareOfSix();
        choosingMembers();
        choosingAfterLeaving();
        shareOrderAfterANewBeginning();
        sharesAfterRestore();
        Check.end();
    }

    // "There are 6 clients, numbered from 0."
    private static void allClientsCanDoAll() {
        for (int c = 0; c < 6; c++) {
            GradedTopicBroker b = new GradedTopicBroker();
            Check.due("state", b.sessionState(c), 0);
            Check.due("audience", Check.write(b, "a").audience(c), 0);
            Check.due("connect", b.connect(c, false), 0);
            Check.due("will", Check.write(b, "w").setWill(c, 0, false, 0), 0);
            Check.due("subscribe", Check.subscribe(b, c, "a", 1, 1, 0), 1);
            Check.due("part", b.subscription(c, 0, 1), 1);
            Check.due("relation", b.relation(c, 0, 0), 7);
            Check.due("publish", Check.publish(b, c, "a", 2, 1, 1), 1);
            Check.due("member", Check.write(b, "a").shareMember(1, 0), c);
            Check.due("in flight", b.inFlight(c, 0, 0), 1);
            Check.due("repeat", b.repeat(c), 3);
            Check.due("receive", b.receive(c), 0);
            Check.due("lose", b.lose(c), 2);
            Check.due("answer", b.answer(c, 1, 1), 1);
            Check.due("release", b.release(c, 1), 1);
            Check.due("length", b.length(c, 0), 2);
            Check.due("load", b.load(c), 0);
            b.advance(1);
            Check.due("load", b.load(c), 750);
            Check.due("unsubscribe", Check.write(b, "a").unsubscribe(c, 1), 1);
            Check.due("break", b.breakConnection(c), 1);
            Check.due("connect again", b.connect(c, false), 1);
            Check.due("disconnect", b.disconnect(c), 1);
        }
    }

    // "A client has at most one session."
    private static void oneSessionAClient() {
        GradedTopicBroker b = new GradedTopicBroker();
        b.connect(0, false);
        Check.subscribe(b, 0, "a", 1, 0, 0);
        b.disconnect(0);
        b.connect(0, true);
        Check.due("the persistent one is removed", b.length(0, 4), 0);
        b.disconnect(0);
        Check.due("and does not come back", b.sessionState(0), 0);
        Check.due("nothing to resume", b.connect(0, false), 0);
        Check.due("without its subscription", b.length(0, 4), 0);
    }

    // "A clean session is removed as soon as its client is not connected any more."
    private static void cleanSessionsEndWithTheConnection() {
        GradedTopicBroker b = new GradedTopicBroker();
        for (int way = 0; way < 3; way++) {
            b.connect(way, true);
            Check.due("clean", b.sessionState(way), 3);
            Check.subscribe(b, way, "a", 2, 1, 0);
            Check.publish(b, way, "a", 2, 1, 1);
        }
        Check.due("disconnect", b.disconnect(0), 0);
        Check.due("break", b.breakConnection(1), 0);
        Check.due("takeover", b.connect(2, false), 0);
        int[] states = {0, 0, 2};
        for (int c = 0; c < 3; c++) {
            Check.due("state", b.sessionState(c), states[c]);
            for (int which = 0; which < 5; which++) {
                Check.due("nothing left", b.length(c, which), 0);
            }
        }
        Check.due("no expiry is counted", b.total(7), 0);
        Check.due("no drop is counted", b.total(2), 0);
    }

    // "When a session is removed, its subscriptions are removed too."
    private static void removalTakesSubscriptions() {
        for (int way = 0; way < 5; way++) {
            GradedTopicBroker b = new GradedTopicBroker();
            b.connect(1, false);
            b.connect(0, way < 2);
            for (int group = 1; group <= 3; group++) {
                Check.subscribe(b, 0, "a", 1, group, 0);
                Check.subscribe(b, 1, "a", 1, group, 0);
            }
            Check.subscribe(b, 0, "+", 1, 0, 0);
            Check.subscribe(b, 0, "#", 1, 3, 0);
            Check.subscribe(b, 0, "#", 1, 1, 0);
            Check.due("audience before", Check.write(b, "a").audience(1), 6);
            remove(b, way);
            for (int group = 1; group <= 3; group++) {
                Check.due("one member left, way " + way, Check.write(b, "a").shareSize(group), 1);
                Check.due("the other one, way " + way, Check.write(b, "a").shareMember(group, 0), 1);
            }
            Check.due("no share", Check.write(b, "#").shareSize(1), 0);
            Check.due("no share", Check.write(b, "#").shareSize(3), 0);
            Check.due("audience after", Check.write(b, "a").audience(1), 3);
            Check.due("copies after", Check.publish(b, 1, "a", 0, 0, 1), 3);
        }
    }

    private static void remove(GradedTopicBroker b, int way) {
        if (way == 0) {
            b.disconnect(0);
        } else if (way == 1) {
            b.breakConnection(0);
        } else if (way == 2) {
            b.connect(0, true);
        } else {
            b.disconnect(0);
            if (way == 3) {
                b.connect(0, true);
            } else {
                b.advance(20);
            }
        }
    }

    // "holds subscriptions, messages in flight, pending messages, the identifiers of received messages of grade 2,
    // and the next identifier, 1 at first"; "Messages that are pending or in flight in a session that is removed are
    // not counted as dropped"
    private static void removalTakesEverything() {
        for (int way = 2; way < 5; way++) {
            GradedTopicBroker b = new GradedTopicBroker();
            b.connect(0, false);
            Check.subscribe(b, 0, "a", 2, 0, 0);
            for (int i = 1; i <= 11; i++) {
                Check.publish(b, 0, "a", 2, i, i);
            }
            Check.due("in flight", b.length(0, 1), 3);
            Check.due("pending", b.length(0, 2), 8);
            Check.due("kept", b.length(0, 3), 11);
            remove(b, way);
            b.connect(0, false);
            for (int which = 1; which < 5; which++) {
                Check.due("nothing, way " + way, b.length(0, which), 0);
            }
            Check.due("no drop is counted", b.total(2), 0);
            Check.due("identifier 11 is kept no more", b.release(0, 11), 0);
            Check.subscribe(b, 0, "a", 1, 0, 0);
            Check.publish(b, 0, "a", 1, 1, 1);
            Check.due("the next identifier is 1 again", b.inFlight(0, 0, 0), 1);
            Check.due("nothing is pending before it", b.length(0, 2), 0);
        }
    }

    // "Returns 1 if a session was resumed, otherwise 0."
    private static void resumptionReturns() {
        for (int first = 0; first < 2; first++) {
            for (int second = 0; second < 2; second++) {
                for (int takeover = 0; takeover < 2; takeover++) {
                    GradedTopicBroker b = new GradedTopicBroker();
                    Check.due("a new one", b.connect(0, first == 1), 0);
                    if (takeover == 0) {
                        b.disconnect(0);
                    }
                    Check.due("resumed", b.connect(0, second == 1), first + second == 0 ? 1 : 0);
                    Check.due("state", b.sessionState(0), 2 + second);
                    Check.due("takeovers", b.total(5), takeover);
                }
            }
        }
    }

    // "Its will is forgotten."; "its will, if it has one, is published by this client, and forgotten"
    private static void willsOfConnections() {
        GradedTopicBroker b = new GradedTopicBroker();
        b.connect(0, false);
        Check.due("no will", b.breakConnection(0), 0);
        Check.due("none published", b.total(6), 0);
        b.connect(0, false);
        Check.due("first", Check.write(b, "a").setWill(0, 0, false, 1), 0);
        Check.due("second", Check.write(b, "b").setWill(0, 0, false, 1), 1);
        Check.due("third", Check.write(b, "b").setWill(0, 0, false, 1), 1);
        Check.due("one is published", b.breakConnection(0), 1);
        Check.due("the latest", Check.write(b, "b").published(), 1);
        Check.due("not the first", Check.write(b, "a").published(), 0);
        b.connect(0, false);
        Check.due("forgotten", b.breakConnection(0), 0);
        b.connect(0, false);
        Check.due("a first one again", Check.write(b, "a").setWill(0, 0, false, 1), 0);
        b.disconnect(0);
        b.connect(0, false);
        Check.due("forgotten too", Check.write(b, "a").setWill(0, 0, false, 1), 0);
        Check.due("wills", b.total(6), 1);
        Check.due("messages", b.total(0), 1);
    }

    private static void willsOfTakeovers() {
        GradedTopicBroker b = new GradedTopicBroker();
        b.connect(0, false);
        Check.due("takeover without a will", b.connect(0, false), 1);
        Check.due("no will", b.total(6), 0);
        Check.subscribe(b, 0, "w", 2, 0, 0);
        Check.write(b, "w").setWill(0, 2, true, 6);
        Check.due("takeover by a clean one", b.connect(0, true), 0);
        Check.due("the will is published before", b.total(6), 1);
        Check.due("its copy went with the session", b.length(0, 1) + b.length(0, 2), 0);
        Check.due("it was given", b.total(1), 1);
        Check.due("retained", b.retained(0, 1), 6);
        Check.due("takeovers", b.total(5), 2);
        Check.write(b, "w").setWill(0, 2, true, 0);
        Check.due("takeover of a clean one", b.connect(0, true), 0);
        Check.due("removed by the will", b.retainedCount(), 0);
        Check.due("takeovers", b.total(5), 3);
    }

    private static void boundsOfWills() {
        for (int grade = 0; grade < 3; grade++) {
            GradedTopicBroker b = new GradedTopicBroker();
            b.connect(0, false);
            b.connect(5, false);
            Check.subscribe(b, 5, "#", 2, 0, 0);
            Check.due("payload 0", Check.write(b, "w").setWill(0, grade, false, 0), 0);
            b.breakConnection(0);
            Check.packet("will", b, 5, Check.parts(0, grade > 0 ? 1 : 0, grade, 0, 0), "w");
            b.connect(0, false);
            Check.due("payload 9999", Check.write(b, "w").setWill(0, grade, true, 9999), 0);
            b.breakConnection(0);
            Check.packet("will", b, 5, Check.parts(0, grade > 0 ? 2 : 0, grade, 9999, 0), "w");
            Check.due("retained grade", b.retained(0, 0), grade);
        }
    }

    // "the subscription is new and the session has 6 subscriptions"
    private static void subscriptionsUpToSix() {
        GradedTopicBroker b = new GradedTopicBroker();
        b.connect(0, false);
        for (int i = 0; i < 6; i++) {
            Check.due("add", Check.subscribe(b, 0, "a" + i, 0, 0, 0), i + 1);
        }
        Check.badState("a seventh one", () -> Check.subscribe(b, 0, "a6", 0, 0, 0));
        Check.badState("a known filter with a group", () -> Check.subscribe(b, 0, "a0", 0, 1, 0));
        Check.due("none was added", b.length(0, 4), 6);
        for (int i = 0; i < 6; i++) {
            Check.due("known one", Check.subscribe(b, 0, "a" + i, 2, 0, 6), 6);
            Check.due("its grade", b.subscription(0, i, 0), 2);
            Check.due("its options", b.subscription(0, i, 2), 6);
        }
        b.disconnect(0);
        b.connect(0, false);
        Check.badState("after resumption", () -> Check.subscribe(b, 0, "a6", 0, 0, 0));
        Check.write(b, "a5").unsubscribe(0, 0);
        Check.due("room for one", Check.subscribe(b, 0, "a6", 0, 0, 0), 6);
        Check.badState("not for two", () -> Check.subscribe(b, 0, "a7", 0, 0, 0));
    }

    // "the group, 1 to 3, or 0 for none": the same filter four times
    private static void subscriptionsOfEachGroup() {
        GradedTopicBroker b = new GradedTopicBroker();
        b.connect(0, false);
        for (int group = 0; group <= 3; group++) {
            Check.due("add", Check.subscribe(b, 0, "a", 2, group, 0), group + 1);
            Check.due("again", Check.subscribe(b, 0, "a", 2, group, 0), group + 1);
            Check.due("its group", b.subscription(0, group, 1), group);
        }
        Check.due("a copy each", Check.publish(b, 0, "a", 0, 0, 1), 4);
        for (int group = 3; group >= 0; group--) {
            Check.due("remove", Check.write(b, "a").unsubscribe(0, group), 1);
            Check.due("not twice", Check.write(b, "a").unsubscribe(0, group), 0);
            Check.due("left", b.length(0, 4), group);
        }
    }

    // "replaces the grade and the options of the subscription ... which keeps its place"
    private static void replacingKeepsThePlace() {
        GradedTopicBroker b = new GradedTopicBroker();
        b.connect(0, false);
        Check.subscribe(b, 0, "a", 0, 0, 0);
        Check.subscribe(b, 0, "a/#", 1, 0, 2);
        Check.subscribe(b, 0, "a/+/c", 2, 0, 4);
        Check.due("replace the first", Check.subscribe(b, 0, "a", 2, 0, 7), 3);
        int[][] want = {{2, 0, 7, 1}, {1, 0, 2, 2}, {2, 0, 4, 3}};
        for (int i = 0; i < 3; i++) {
            for (int what = 0; what < 4; what++) {
                Check.due("part " + what + " of " + i, b.subscription(0, i, what), want[i][what]);
            }
        }
    }

    // "options: a sum of the options 1, 2 and 4"; "option 1 has no effect here"
    private static void optionsOfSubscriptions() {
        for (int options = 0; options < 8; options++) {
            GradedTopicBroker b = new GradedTopicBroker();
            b.connect(0, false);
            Check.retain(b, 0, "a", 0, 1);
            Check.drain(b, 0);
            Check.due("sum", Check.subscribe(b, 0, "a", 0, 0, options), 1);
            Check.due("read again", b.subscription(0, 0, 2), options);
            Check.due("if new", b.length(0, 0), (options & 2) == 0 ? 1 : 0);
            Check.drain(b, 0);
            Check.subscribe(b, 0, "a", 0, 0, options);
            Check.due("if known", b.length(0, 0), (options & 6) == 0 ? 1 : 0);
            Check.drain(b, 0);
            Check.due("own message", Check.publish(b, 0, "a", 0, 0, 1), (options & 1) == 0 ? 1 : 0);
            Check.due("of another client", Check.write(b, "a").audience(1), 1);
            Check.write(b, "a").unsubscribe(0, 0);
            Check.drain(b, 0);
            Check.subscribe(b, 0, "a", 0, 0, options);
            Check.due("new once more", b.length(0, 0), (options & 2) == 0 ? 1 : 0);
        }
    }

    // "the slash comes before digits and digits before letters, and a topic comes before its continuations"
    private static void ascendingOrderOfTopics() {
        String[] ordered = {"0", "0/z", "00", "9zzzzz", "a", "a/0", "a0", "aa"};
        for (int turn = 0; turn < ordered.length; turn++) {
            GradedTopicBroker b = new GradedTopicBroker();
            b.connect(0, false);
            for (int i = 0; i < 8; i++) {
                int k = (i * 3 + turn) % 8;
                Check.retain(b, 0, ordered[k], 0, k + 1);
            }
            Check.drain(b, 0);
            Check.subscribe(b, 0, "#", 0, 0, 0);
            for (int i = 0; i < 8; i++) {
                Check.due("place of " + ordered[i], b.retained(i, 1), i + 1);
                Check.due("its length", b.retained(i, 2), ordered[i].length());
                Check.packet("given", b, 0, Check.parts(0, 0, 0, i + 1, 2), ordered[i]);
            }
        }
    }

    private static void unsubscribingTheFirstAndTheLast() {
        for (int gone = 0; gone < 6; gone++) {
            GradedTopicBroker b = new GradedTopicBroker();
            b.connect(0, false);
            for (int i = 0; i < 6; i++) {
                Check.subscribe(b, 0, "a" + i, 0, 0, i);
            }
            Check.due("remove", Check.write(b, "a" + gone).unsubscribe(0, 0), 1);
            int place = 0;
            for (int i = 0; i < 6; i++) {
                if (i != gone) {
                    Check.due("those behind move up", b.subscription(0, place, 2), i);
                    place++;
                }
            }
            Check.outOfBounds("five left", () -> b.subscription(0, 5, 0));
            Check.due("the new one is the last", Check.subscribe(b, 0, "b", 0, 0, 7), 6);
            Check.due("the new one is the last", b.subscription(0, 5, 2), 7);
            for (int i = 0; i < 6; i++) {
                Check.due("none matches twice", Check.write(b, "a" + i).audience(1), i == gone ? 0 : 1);
            }
        }
    }

    private static void numberOfLevels() {
        String[] filters = {"#", "+", "a", "a/#", "+/+/b", "a/b/c/#", "abcdef/+/c/d"};
        int[] levels = {1, 1, 1, 2, 3, 4, 4};
        GradedTopicBroker b = new GradedTopicBroker();
        for (int i = 0; i < filters.length; i++) {
            b.connect(0, true);
            Check.subscribe(b, 0, filters[i], 0, 0, 0);
            Check.due("levels of " + filters[i], b.subscription(0, 0, 3), levels[i]);
        }
    }

    private static void relate(String first, String second, int want, int turned) {
        GradedTopicBroker b = new GradedTopicBroker();
        b.connect(0, false);
        Check.subscribe(b, 0, first, 0, 1, 0);
        Check.subscribe(b, 0, second, 0, 2, 0);
        Check.due(first + " to " + second, b.relation(0, 0, 1), want);
        Check.due(second + " to " + first, b.relation(0, 1, 0), turned);
        Check.due(first + " to itself", b.relation(0, 0, 0), 7);
        Check.due(second + " to itself", b.relation(0, 1, 1), 7);
    }

    // "Returns 0 if no topic matches both filters": no topic has more than four levels
    private static void relationsAtTheEdges() {
        relate("#", "+/#", 7, 7);
        relate("#", "+/+/#", 3, 5);
        relate("+/+/+/#", "+/+/+/+", 3, 5);
        relate("+/+/+/#", "+/+/+", 3, 5);
        relate("+/+/+/#", "+/+", 0, 0);
        relate("a/b/c/#", "a/b/c/d", 3, 5);
        relate("a/b/c/#", "a/b/c", 3, 5);
        relate("a/b/c/#", "a/b", 0, 0);
        relate("a/b/c/#", "a/b/#", 5, 3);
        relate("a/b/c/#", "+/+/+/d", 1, 1);
        relate("a/#", "+", 1, 1);
        relate("a/#", "a", 3, 5);
        relate("a/#", "a/+", 3, 5);
        relate("a/#", "+/#", 5, 3);
        relate("a/#", "b/#", 0, 0);
        relate("a/+/#", "+/b/#", 1, 1);
        relate("a/+", "+/b", 1, 1);
        relate("a/+", "a/b", 3, 5);
        relate("a", "a/b", 0, 0);
        relate("+", "+/+", 0, 0);
        relate("+", "#", 5, 3);
        relate("a", "b", 0, 0);
        relate("a0", "ap", 0, 0);
        relate("a", "a", 7, 7);
        relate("abcdef/abcdef/abcdef/abcdef", "+/+/+/+", 5, 3);
    }

    // "A share comes into being with its first member, and ceases to exist with its last one."
    private static void shareComesAndGoes() {
        GradedTopicBroker b = new GradedTopicBroker();
        b.connect(0, false);
        b.connect(1, false);
        Check.due("none", Check.write(b, "a").shareSize(1), 0);
        Check.subscribe(b, 0, "a", 0, 0, 0);
        Check.due("no group, no share", Check.write(b, "a").shareSize(1), 0);
        Check.subscribe(b, 0, "a", 0, 1, 0);
        Check.due("one", Check.write(b, "a").shareSize(1), 1);
        Check.subscribe(b, 1, "a", 0, 1, 0);
        Check.due("two", Check.write(b, "a").shareSize(1), 2);
        Check.due("not of another group", Check.write(b, "a").shareSize(2), 0);
        Check.due("not of another filter", Check.write(b, "+").shareSize(1), 0);
        Check.write(b, "a").unsubscribe(0, 0);
        Check.due("the other subscription", Check.write(b, "a").shareSize(1), 2);
        Check.write(b, "a").unsubscribe(0, 1);
        Check.due("one left", Check.write(b, "a").shareSize(1), 1);
        Check.due("a copy", Check.write(b, "a").audience(5), 1);
        Check.write(b, "a").unsubscribe(1, 1);
        Check.due("none left", Check.write(b, "a").shareSize(1), 0);
        Check.due("no copy", Check.write(b, "a").audience(5), 0);
        Check.outOfBounds("no member", () -> Check.write(b, "a").shareMember(1, 0));
    }

    private static void members(GradedTopicBroker b, String what, int... want) {
        Check.due(what + ": size", Check.write(b, "a").shareSize(3), want.length);
        for (int i = 0; i < want.length; i++) {
            Check.due(what + ": member " + i, Check.write(b, "a").shareMember(3, i), want[i]);
        }
        Check.outOfBounds(what + ": no more", () -> Check.write(b, "a").shareMember(3, want.length));
    }

    // "Its members are kept in the order in which they subscribed, as changed by choices."
    private static void shareOfSix() {
        GradedTopicBroker b = new GradedTopicBroker();
        for (int c = 5; c >= 0; c--) {
            b.connect(c, false);
            Check.subscribe(b, c, "a", 0, 3, 0);
        }
        members(b, "all", 5, 4, 3, 2, 1, 0);
        for (int c = 5; c >= 0; c--) {
            Check.publish(b, 0, "a", 0, 0, 1);
            Check.due("chosen", Check.write(b, "a").shareMember(3, 5), c);
            Check.due("got it", b.length(c, 0), 1);
        }
        members(b, "all again", 5, 4, 3, 2, 1, 0);
        Check.subscribe(b, 5, "a", 2, 3, 0);
        members(b, "keeps its place", 5, 4, 3, 2, 1, 0);
        Check.write(b, "a").unsubscribe(5, 3);
        Check.subscribe(b, 5, "a", 2, 3, 0);
        members(b, "a new one is the last", 4, 3, 2, 1, 0, 5);
    }

    // "the first member whose client is connected, or the first member if there is none"
    private static void choosingMembers() {
        for (int online = 0; online < 8; online++) {
            GradedTopicBroker b = new GradedTopicBroker();
            for (int c = 0; c < 4; c++) {
                b.connect(c, false);
                if (c < 3) {
                    Check.subscribe(b, c, "a", 1, 3, 0);
                }
            }
            int chosen = -1;
            for (int c = 2; c >= 0; c--) {
                if ((online >> c & 1) == 0) {
                    b.disconnect(c);
                } else {
                    chosen = c;
                }
            }
            chosen = Math.max(chosen, 0);
            Check.due("one copy", Check.publish(b, 3, "a", 1, 1, 7), 1);
            int[] want = {chosen == 0 ? 1 : 0, chosen == 2 ? 1 : 2, chosen};
            members(b, "online " + online, want);
            Check.due("in flight", b.length(chosen, 1), online == 0 ? 0 : 1);
            Check.due("pending", b.length(chosen, 2), online == 0 ? 1 : 0);
        }
    }

    /** A client that has left the share is not chosen, although it is the only connected one. */
    private static void choosingAfterLeaving() {
        GradedTopicBroker b = new GradedTopicBroker();
        for (int c = 0; c < 3; c++) {
            b.connect(c, false);
            Check.subscribe(b, c, "a", 1, 3, 0);
        }
        Check.write(b, "a").unsubscribe(2, 3);
        b.disconnect(0);
        b.disconnect(1);
        Check.publish(b, 2, "a", 1, 1, 7);
        members(b, "the one that left is no member", 1, 0);
        Check.due("not to it", b.length(2, 1), 0);
        Check.due("but to the first", b.length(0, 2), 1);
    }

    // "For each share whose filter matches the topic, in the order in which the shares came into being"
    private static void shareOrderAfterANewBeginning() {
        GradedTopicBroker b = new GradedTopicBroker();
        b.connect(0, false);
        b.connect(1, false);
        Check.subscribe(b, 0, "#", 0, 2, 0);
        Check.subscribe(b, 0, "+", 1, 1, 0);
        Check.subscribe(b, 0, "a", 2, 3, 0);
        order(b, 0, 1, 2);
        Check.subscribe(b, 1, "+", 1, 1, 0);
        Check.write(b, "+").unsubscribe(0, 1);
        Check.subscribe(b, 0, "+", 1, 1, 0);
        Check.write(b, "+").unsubscribe(1, 1);
        order(b, 0, 1, 2);
        Check.write(b, "#").unsubscribe(0, 2);
        Check.subscribe(b, 0, "#", 0, 2, 0);
        order(b, 1, 2, 0);
        Check.write(b, "a").unsubscribe(0, 3);
        Check.subscribe(b, 0, "a", 2, 3, 0);
        order(b, 1, 0, 2);
    }

    private static void order(GradedTopicBroker b, int... grades) {
        b.setOption(0, 5);
        b.connect(2, true);
        Check.due("a copy for each share", Check.publish(b, 2, "a", 2, 1, 1), 3);
        for (int i = 0; i < 3; i++) {
            b.receive(0);
            Check.due("share " + i, b.packet(2), grades[i]);
        }
        for (int i = 0; i < 2 && b.length(0, 1) > 0; i++) {
            int identifier = b.inFlight(0, 0, 0);
            b.answer(0, 2, identifier);
            b.answer(0, b.inFlight(0, 0, 1) == 1 ? 1 : 4, identifier);
        }
        Check.drain(b, 0);
    }

    /** A share that comes into being after a restored snapshot has no member of one that the snapshot had not. */
    private static void sharesAfterRestore() {
        GradedTopicBroker b = new GradedTopicBroker();
        b.connect(0, false);
        b.connect(1, false);
        b.save();
        Check.subscribe(b, 0, "b", 0, 1, 0);
        Check.subscribe(b, 1, "b", 0, 1, 0);
        b.restore();
        Check.due("gone", Check.write(b, "b").shareSize(1), 0);
        Check.subscribe(b, 1, "a", 0, 3, 0);
        members(b, "alone", 1);
        Check.due("one copy", Check.publish(b, 0, "a", 0, 0, 1), 1);
        Check.due("to the member", b.length(1, 0), 1);
    }
}
