/** Promises 10 to 15: subscribe, unsubscribe, subscription, relation, shareSize, shareMember. */
final class SubscriptionTest {
    public static void main(String[] args) {
        adding();
        wrongCalls();
        limit();
        retainedOnSubscribing();
        retainedInOrder();
        retainedInFlightAndPending();
        unsubscribing();
        matching();
        relations();
        shares();
        shareOrder();
        sharesOfOfflineMembers();
        asManySharesAsCanBe();
        Check.end();
    }

    private static void adding() {
        GradedTopicBroker b = new GradedTopicBroker();
        b.connect(0, false);
        Check.due("first", Check.subscribe(b, 0, "a/+/#", 1, 0, 5), 1);
        Check.due("other group", Check.subscribe(b, 0, "a/+/#", 2, 3, 6), 2);
        Check.due("other filter", Check.subscribe(b, 0, "#", 0, 0, 0), 3);
        Check.due("same again", Check.subscribe(b, 0, "a/+/#", 2, 0, 2), 3);
        int[][] want = {{2, 0, 2, 3}, {2, 3, 6, 3}, {0, 0, 0, 1}};
        for (int i = 0; i < 3; i++) {
            for (int what = 0; what < 4; what++) {
                Check.due("subscription " + i + " " + what, b.subscription(0, i, what), want[i][what]);
            }
        }
        Check.outOfBounds("subscription 3", () -> b.subscription(0, 3, 0));
        Check.outOfBounds("subscription -1", () -> b.subscription(0, -1, 9));
        Check.outOfBounds("of nobody", () -> b.subscription(1, 0, 0));
        Check.outOfBounds("of client 6", () -> b.subscription(6, 0, 9));
        Check.badArgument("what 4", () -> b.subscription(0, 0, 4));
        Check.badArgument("what -1", () -> b.subscription(0, 0, -1));
        b.disconnect(0);
        Check.due("of an offline session", b.subscription(0, 1, 1), 3);
    }

    private static void wrongCalls() {
        GradedTopicBroker b = new GradedTopicBroker();
        b.connect(0, false);
        Check.outOfBounds("client", () -> Check.subscribe(b, 6, "a", 0, 0, 0));
        Check.badArgument("filter", () -> Check.subscribe(b, 0, "a+", 0, 0, 0));
        Check.badArgument("grade 3", () -> Check.subscribe(b, 0, "a", 3, 0, 0));
        Check.badArgument("grade -1", () -> Check.subscribe(b, 0, "a", -1, 0, 0));
        Check.badArgument("group 4", () -> Check.subscribe(b, 0, "a", 0, 4, 0));
        Check.badArgument("group -1", () -> Check.subscribe(b, 0, "a", 0, -1, 0));
        Check.badArgument("options 8", () -> Check.subscribe(b, 0, "a", 0, 0, 8));
        Check.badArgument("options -1", () -> Check.subscribe(b, 0, "a", 0, 0, -1));
        for (int options = 0; options < 8; options++) {
            int o = options;
            if (options % 2 == 1) {
                Check.badArgument("option 1 with a group", () -> Check.subscribe(b, 0, "a", 0, 1, o));
            } else {
                Check.due("options with a group", Check.subscribe(b, 0, "a", 0, 1, o), 1);
            }
        }
        Check.badState("not connected", () -> Check.subscribe(b, 1, "a", 0, 0, 0));
        Check.badArgument("option 1 before the connection", () -> Check.subscribe(b, 1, "a", 0, 1, 1));
        Check.outOfBounds("unsubscribe: client", () -> Check.write(b, "a").unsubscribe(-1, 9));
        Check.badArgument("unsubscribe: filter", () -> Check.write(b, "a/").unsubscribe(0, 0));
        Check.badArgument("unsubscribe: group 4", () -> Check.write(b, "a").unsubscribe(0, 4));
        Check.badArgument("unsubscribe: group -1", () -> Check.write(b, "a").unsubscribe(1, -1));
        Check.badState("unsubscribe: connection", () -> Check.write(b, "a").unsubscribe(1, 0));
        Check.due("nothing else was added", b.length(0, 4), 1);
    }

    private static void limit() {
        GradedTopicBroker b = new GradedTopicBroker();
        b.connect(0, false);
        b.connect(1, false);
        for (int i = 0; i < 6; i++) {
            Check.due("add", Check.subscribe(b, 0, "a" + i, 0, i % 4, 0), i + 1);
        }
        Check.badState("a seventh one", () -> Check.subscribe(b, 0, "b", 0, 0, 0));
        Check.badState("a seventh one in a group", () -> Check.subscribe(b, 0, "a1", 0, 2, 0));
        Check.due("no share of it", Check.write(b, "a1").shareSize(2), 0);
        Check.due("a known one", Check.subscribe(b, 0, "a5", 2, 1, 0), 6);
        Check.due("another client", Check.subscribe(b, 1, "b", 0, 0, 0), 1);
        Check.write(b, "a0").unsubscribe(0, 0);
        Check.due("room again", Check.subscribe(b, 0, "b", 0, 0, 0), 6);
    }

    private static void retainedOnSubscribing() {
        GradedTopicBroker b = new GradedTopicBroker();
        b.connect(0, false);
        b.connect(1, false);
        Check.retain(b, 0, "a", 2, 9);
        Check.drain(b, 0);
        int[][] cases = {
            {0, 1, 1}, {1, 1, 1}, {2, 0, 0}, {3, 0, 0}, {4, 1, 0}, {5, 1, 0}, {6, 0, 0}, {7, 0, 0}
        };
        for (int[] row : cases) {
            Check.write(b, "a").unsubscribe(0, 0);
            Check.subscribe(b, 0, "a", 0, 0, row[0]);
            Check.due("new with options " + row[0], b.length(0, 0), row[1]);
            Check.drain(b, 0);
            Check.subscribe(b, 0, "a", 0, 0, row[0]);
            Check.due("again with options " + row[0], b.length(0, 0), row[2]);
            Check.drain(b, 0);
        }
        Check.subscribe(b, 0, "a", 2, 1, 0);
        Check.due("not with a group", b.length(0, 0), 0);
        Check.subscribe(b, 0, "a", 1, 0, 1);
        Check.packet("lesser grade and flag", b, 0, Check.parts(0, 1, 1, 9, 2), "a");
        Check.subscribe(b, 1, "+/#", 2, 0, 0);
        Check.packet("own grade", b, 1, Check.parts(0, 1, 2, 9, 2), "a");
        Check.retain(b, 1, "a", 0, 8);
        Check.drain(b, 1);
        Check.subscribe(b, 1, "#", 2, 0, 0);
        Check.packet("grade 0", b, 1, Check.parts(0, 0, 0, 8, 2), "a");
        Check.due("the new options count", Check.subscribe(b, 1, "#", 2, 0, 2), 2);
        Check.noPacket("the new options count", b, 1);
    }

    private static void retainedInOrder() {
        GradedTopicBroker b = new GradedTopicBroker();
        b.connect(0, false);
        String[] topics = {"b", "a/b", "ab", "a", "a0", "a/b/c", "0", "z"};
        for (int i = 0; i < 8; i++) {
            Check.retain(b, 0, topics[i], 0, i + 1);
        }
        int given = b.total(1);
        Check.subscribe(b, 0, "#", 2, 0, 0);
        String[] want = {"0", "a", "a/b", "a/b/c", "a0", "ab", "b", "z"};
        int[] payloads = {7, 4, 2, 6, 5, 3, 1, 8};
        for (int i = 0; i < 8; i++) {
            Check.packet("retained " + i, b, 0, Check.parts(0, 0, 0, payloads[i], 2), want[i]);
        }
        Check.noPacket("eight", b, 0);
        Check.due("copies given", b.total(1), given + 8);
        Check.subscribe(b, 0, "a/#", 2, 0, 0);
        Check.due("those that match", b.length(0, 0), 3);
    }

    private static void retainedInFlightAndPending() {
        GradedTopicBroker b = new GradedTopicBroker();
        b.connect(0, false);
        for (int i = 1; i <= 5; i++) {
            Check.retain(b, 0, "a" + i, 1, i);
        }
        Check.drain(b, 0);
        b.setOption(0, 1);
        Check.subscribe(b, 0, "+", 2, 0, 0);
        Check.due("in flight", b.length(0, 1), 1);
        Check.due("pending", b.length(0, 2), 4);
        b.answer(0, 1, 1);
        Check.packet("first", b, 0, Check.parts(0, 1, 1, 1, 2), "a1");
        Check.packet("second keeps its flag", b, 0, Check.parts(0, 2, 1, 2, 2), "a2");
        Check.due("two more times", Check.subscribe(b, 0, "+", 2, 0, 0), 1);
        Check.due("pending now", b.length(0, 2), 8);
        Check.due("nothing dropped", b.total(2), 0);
        Check.subscribe(b, 0, "+", 2, 0, 0);
        Check.due("five dropped", b.total(2), 5);
    }

    private static void unsubscribing() {
        GradedTopicBroker b = new GradedTopicBroker();
        b.connect(0, false);
        Check.subscribe(b, 0, "a", 1, 0, 0);
        Check.subscribe(b, 0, "b", 2, 0, 0);
        Check.subscribe(b, 0, "a", 0, 1, 0);
        Check.due("other group", Check.write(b, "a").unsubscribe(0, 2), 0);
        Check.due("other filter", Check.write(b, "+").unsubscribe(0, 0), 0);
        Check.due("this one", Check.write(b, "a").unsubscribe(0, 0), 1);
        Check.due("not twice", Check.write(b, "a").unsubscribe(0, 0), 0);
        Check.due("two left", b.length(0, 4), 2);
        Check.due("b moved up", b.subscription(0, 0, 0), 2);
        Check.due("share stays", Check.write(b, "a").shareSize(1), 1);
        Check.due("share left", Check.write(b, "a").unsubscribe(0, 1), 1);
        Check.due("share gone", Check.write(b, "a").shareSize(1), 0);
    }

    private static void match(String filter, String topic, boolean want) {
        GradedTopicBroker b = new GradedTopicBroker();
        b.connect(0, false);
        Check.subscribe(b, 0, filter, 0, 0, 0);
        Check.due(filter + " matches " + topic, Check.write(b, topic).audience(0), want ? 1 : 0);
        Check.subscribe(b, 0, filter, 0, 3, 0);
        Check.due(filter + " of a group matches " + topic, Check.publish(b, 0, topic, 0, 0, 1), want ? 2 : 0);
    }

    private static void matching() {
        match("a", "a", true);
        match("a", "b", false);
        match("a", "a/a", false);
        match("a", "aa", false);
        match("+", "a", true);
        match("+", "a/b", false);
        match("#", "a", true);
        match("#", "a/b/c/d", true);
        match("a/#", "a", true);
        match("a/#", "a/b", true);
        match("a/#", "a/b/c/d", true);
        match("a/#", "ab", false);
        match("a/#", "b/a", false);
        match("+/#", "a", true);
        match("+/+/#", "a", false);
        match("+/+/#", "a/b", true);
        match("a/+/c", "a/b/c", true);
        match("a/+/c", "a/b/d", false);
        match("a/+/c", "a/b", false);
        match("a/+/c", "a/b/c/d", false);
        match("+/+/+/+", "a/b/c/d", true);
        match("+/+/+/+", "a/b/c", false);
        match("a/b/c/#", "a/b/c/d", true);
        match("a/b/c/#", "a/b/c", true);
        match("a/b/c/#", "a/b", false);
        match("abcdef/+", "abcdef/ghijkl", true);
        match("abcdef/+", "bbcdef/ghijkl", false);
        match("abcdef", "abcdee", false);
    }

    private static void relate(String first, String second, int want) {
        GradedTopicBroker b = new GradedTopicBroker();
        b.connect(0, false);
        Check.subscribe(b, 0, first, 0, 1, 0);
        Check.subscribe(b, 0, second, 0, 2, 0);
        int turned = want & 1 | (want & 2) << 1 | (want & 4) >> 1;
        Check.due(first + " to " + second, b.relation(0, 0, 1), want);
        Check.due(second + " to " + first, b.relation(0, 1, 0), turned);
        Check.due(first + " to itself", b.relation(0, 0, 0), 7);
    }

    private static void relations() {
        relate("a", "a", 7);
        relate("a", "b", 0);
        relate("a", "+", 5);
        relate("#", "a", 3);
        relate("#", "+/#", 7);
        relate("#", "+/+/#", 3);
        relate("a/+", "+/b", 1);
        relate("a/+", "b/+", 0);
        relate("a/+", "a/+/c", 0);
        relate("a/#", "+/b", 1);
        relate("a/#", "a", 3);
        relate("a/#", "b", 0);
        relate("a/#", "+", 1);
        relate("a/+/#", "a/#", 5);
        relate("a/b/c/#", "a/b/c/+", 3);
        relate("a/b/c/#", "a/b/c/d", 3);
        relate("+/+/+/#", "+/+/+/+", 3);
        relate("+/+/+/#", "a/b", 0);
        relate("+/b/#", "a/#", 1);
        relate("+/b/#", "a/c/#", 0);
        relate("+/+/+/+", "#", 5);
        relate("a/+/c/+", "a/b/+/d", 1);
        relate("a/+/c/+", "a/b/d/+", 0);
        GradedTopicBroker b = new GradedTopicBroker();
        b.connect(0, false);
        Check.subscribe(b, 0, "a", 0, 0, 0);
        Check.outOfBounds("client", () -> b.relation(6, 0, 0));
        Check.outOfBounds("first", () -> b.relation(0, 1, 0));
        Check.outOfBounds("second", () -> b.relation(0, 0, 1));
        Check.outOfBounds("first -1", () -> b.relation(0, -1, 0));
        Check.outOfBounds("second -1", () -> b.relation(0, 0, -1));
        Check.outOfBounds("no session", () -> b.relation(1, 0, 0));
    }

    private static void members(GradedTopicBroker b, String what, String filter, int group, int... want) {
        Check.due(what + ": size", Check.write(b, filter).shareSize(group), want.length);
        for (int i = 0; i < want.length; i++) {
            Check.due(what + ": member " + i, Check.write(b, filter).shareMember(group, i), want[i]);
        }
        Check.outOfBounds(what + ": behind", () -> Check.write(b, filter).shareMember(group, want.length));
        Check.outOfBounds(what + ": before", () -> Check.write(b, filter).shareMember(group, -1));
    }

    private static void shares() {
        GradedTopicBroker b = new GradedTopicBroker();
        for (int c = 0; c < 6; c++) {
            b.connect(c, c == 4);
        }
        Check.subscribe(b, 3, "a/+", 1, 2, 0);
        Check.subscribe(b, 0, "a/+", 2, 2, 0);
        Check.subscribe(b, 4, "a/+", 0, 2, 0);
        Check.subscribe(b, 0, "a/+", 2, 1, 0);
        members(b, "in order", "a/+", 2, 3, 0, 4);
        members(b, "other group", "a/+", 1, 0);
        members(b, "no share", "a/+", 3);
        members(b, "no such filter", "a/b", 2);
        Check.due("one copy a share", Check.publish(b, 5, "a/b", 2, 1, 7), 2);
        members(b, "the chosen one is last", "a/+", 2, 0, 4, 3);
        Check.packet("grade of the member", b, 3, Check.parts(0, 1, 1, 7, 0), "a/b");
        Check.subscribe(b, 0, "a/+", 0, 2, 0);
        members(b, "keeps its place", "a/+", 2, 0, 4, 3);
        Check.drain(b, 0);
        Check.publish(b, 5, "a/c", 2, 2, 8);
        Check.packet("new grade of the member", b, 0, Check.parts(0, 0, 0, 8, 0), "a/c");
        Check.packet("other share after it", b, 0, Check.parts(0, 2, 2, 8, 0), "a/c");
        b.disconnect(4);
        members(b, "a clean one leaves", "a/+", 2, 3, 0);
        Check.write(b, "a/+").unsubscribe(3, 2);
        members(b, "unsubscribed", "a/+", 2, 0);
        Check.badArgument("group 0", () -> Check.write(b, "a").shareSize(0));
        Check.badArgument("group 4", () -> Check.write(b, "a").shareSize(4));
        Check.badArgument("no filter", () -> Check.write(b, "a/").shareSize(1));
        Check.badArgument("member: group 0", () -> Check.write(b, "a").shareMember(0, 0));
        Check.badArgument("member: group 4", () -> Check.write(b, "a").shareMember(4, -1));
        Check.badArgument("member: no filter", () -> Check.write(b, "").shareMember(1, 0));
    }

    private static void shareOrder() {
        GradedTopicBroker b = new GradedTopicBroker();
        b.connect(0, false);
        b.connect(1, false);
        Check.subscribe(b, 0, "#", 2, 3, 0);
        Check.subscribe(b, 0, "a", 1, 1, 0);
        Check.subscribe(b, 0, "+", 0, 2, 0);
        Check.subscribe(b, 0, "a", 1, 0, 0);
        Check.due("a share each and one more", Check.publish(b, 1, "a", 2, 1, 1), 4);
        int[] want = {1, 2, 1, 0};
        for (int i = 0; i < 4; i++) {
            b.receive(0);
            Check.due("order of shares " + i, b.packet(2), want[i]);
        }
        Check.subscribe(b, 1, "a", 0, 1, 0);
        Check.write(b, "#").unsubscribe(0, 3);
        Check.write(b, "a").unsubscribe(0, 1);
        Check.write(b, "a").unsubscribe(0, 0);
        Check.subscribe(b, 0, "#", 2, 3, 0);
        Check.subscribe(b, 0, "a", 2, 1, 0);
        Check.drain(b, 1);
        b.answer(0, 1, 1);
        b.answer(0, 1, 3);
        Check.publish(b, 1, "a", 2, 2, 1);
        b.receive(1);
        Check.due("share a is the first", b.packet(0), 0);
        b.receive(0);
        Check.due("then +", b.packet(2), 0);
        b.receive(0);
        Check.due("then the new one", b.packet(2), 2);
    }

    private static void sharesOfOfflineMembers() {
        GradedTopicBroker b = new GradedTopicBroker();
        for (int c = 0; c < 4; c++) {
            b.connect(c, false);
        }
        for (int c = 0; c < 3; c++) {
            Check.subscribe(b, c, "a", 1, 1, 0);
        }
        b.disconnect(0);
        Check.publish(b, 3, "a", 1, 1, 1);
        members(b, "the first connected one", "a", 1, 0, 2, 1);
        Check.due("one", b.length(1, 1), 1);
        b.disconnect(1);
        b.disconnect(2);
        Check.due("audience", Check.write(b, "a").audience(3), 1);
        members(b, "audience changes nothing", "a", 1, 0, 2, 1);
        Check.publish(b, 3, "a", 1, 1, 2);
        members(b, "the first one without any", "a", 1, 2, 1, 0);
        Check.due("pending", b.length(0, 2), 1);
        b.connect(1, false);
        Check.publish(b, 3, "a", 0, 0, 3);
        members(b, "the connected one stays last", "a", 1, 2, 0, 1);
        Check.subscribe(b, 3, "a", 1, 1, 0);
        members(b, "behind all", "a", 1, 2, 0, 1, 3);
        b.advance(20);
        members(b, "expired ones leave", "a", 1, 1, 3);
        Check.due("to the publisher itself", Check.publish(b, 3, "a", 1, 1, 2), 1);
        Check.due("to the publisher itself", Check.publish(b, 3, "a", 1, 1, 2), 1);
        Check.due("in flight to it", b.length(3, 1), 1);
    }

    private static void asManySharesAsCanBe() {
        GradedTopicBroker b = new GradedTopicBroker();
        for (int c = 0; c < 6; c++) {
            b.connect(c, c == 5);
            for (int i = 0; i < 6; i++) {
                Check.subscribe(b, c, "a/#", 0, i % 3 + 1, 0);
                Check.due("a share alone", Check.subscribe(b, c, "a/" + (char) ('a' + c) + i, 0, 1, 0), 2);
                Check.write(b, "a/" + (char) ('a' + c) + i).unsubscribe(c, 1);
                Check.write(b, "a/#").unsubscribe(c, i % 3 + 1);
            }
        }
        for (int c = 0; c < 6; c++) {
            for (int i = 0; i < 6; i++) {
                int group = i % 3 + 1;
                String filter = i < 3 ? "" + (char) ('a' + c) : (char) ('a' + c) + "/#";
                Check.due("subscribe", Check.subscribe(b, c, filter, 0, group, 0), i + 1);
                Check.due("share", Check.write(b, filter).shareSize(group), 1);
            }
        }
        Check.due("the first six", Check.publish(b, 0, "a", 0, 0, 1), 6);
        Check.due("the last six", Check.write(b, "f").audience(0), 6);
        Check.write(b, "f/#").unsubscribe(5, 3);
        Check.due("the last one left", Check.write(b, "f").audience(0), 5);
        Check.subscribe(b, 5, "f/#", 0, 3, 0);
        Check.due("all again", Check.write(b, "f").audience(0), 6);
        b.disconnect(5);
        Check.due("a session left", Check.write(b, "f").audience(0), 0);
        Check.due("others stay", Check.write(b, "e").audience(0), 6);
    }
}
