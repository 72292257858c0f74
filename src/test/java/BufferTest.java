/** Promises 1 to 4: a new object, append, errorPosition, setOption. */
final class BufferTest {
    public static void main(String[] args) {
        newObject();
        append();
        appendWrong();
        errorsOfTopics();
        errorsOfFilters();
        whenTheTextIsRead();
        theBufferIsEmptyAfterwards();
        options();
        Check.end();
    }

    private static void newObject() {
        GradedTopicBroker b = new GradedTopicBroker();
        for (int c = 0; c < 6; c++) {
            int client = c;
            Check.due("new: state", b.sessionState(c), 0);
            Check.due("new: load", b.load(c), 0);
            for (int which = 0; which < 5; which++) {
                Check.due("new: length", b.length(c, which), 0);
            }
            Check.badState("new: receive", () -> b.receive(client));
        }
        for (int what = 0; what < 10; what++) {
            Check.due("new: total", b.total(what), 0);
        }
        Check.due("new: retained", b.retainedCount(), 0);
        Check.due("new: error position", b.errorPosition(), -1);
        Check.badState("new: packet", () -> b.packet(0));
        Check.badState("new: restore", () -> b.restore());
        Check.due("new: clock", b.save(), 0);
        Check.due("new: published", Check.write(b, "a").published(), 0);
        Check.due("new: clock after a tick", b.advance(1), 1);
        Check.due("new: load after a tick", b.load(0), 0);
    }

    private static void append() {
        GradedTopicBroker b = new GradedTopicBroker();
        Check.due("append nothing", b.append(0), 0);
        Check.due("append the last byte", b.append('a'), 1);
        Check.due("append the first byte", b.append('b' << 24), 2);
        Check.due("append around zeros", b.append('/' << 16 | 'c'), 4);
        Check.due("append four", b.append('d' << 24 | 'e' << 16 | 'f' << 8 | 'g'), 8);
        b.connect(0, false);
        Check.due("read what was appended", b.subscribe(0, 0, 0, 0), 1);
        Check.due("the order of the bytes", Check.publish(b, 0, "ab/cdefg", 0, 0, 1), 1);
        Check.due("buffer is empty", b.append(33 << 24), 1);
        Check.due("sign 126", b.append(126), 2);
    }

    private static void appendWrong() {
        GradedTopicBroker b = new GradedTopicBroker();
        Check.badArgument("sign 32", () -> b.append('a' << 24 | 32));
        Check.badArgument("sign 127", () -> b.append(127 << 16));
        Check.badArgument("sign 128", () -> b.append(128 << 8));
        Check.badArgument("sign 255", () -> b.append(255 << 24));
        Check.badArgument("sign 1", () -> b.append(1));
        Check.due("nothing was appended", b.append(0), 0);
        for (int i = 1; i <= 7; i++) {
            Check.due("fill up", b.append(0x61616161), 4 * i);
        }
        Check.badState("31 characters", () -> b.append(0x61616100));
        Check.badArgument("too many and wrong", () -> b.append(0x6161617f));
        Check.due("30 characters", b.append(0x61610000), 30);
        Check.badState("31 characters behind 30", () -> b.append(0x61));
        Check.due("nothing behind 30", b.append(0), 30);
        Check.badArgument("a full buffer is no topic", () -> b.published());
        Check.due("the seventh sign", b.errorPosition(), 6);
        Check.due("and is empty then", b.append(0), 0);
    }

    private static void error(String text, boolean filter, int want) {
        GradedTopicBroker b = Check.write(new GradedTopicBroker(), text);
        String name = (filter ? "filter " : "topic ") + text;
        if (want < 0) {
            Check.due(name, filter ? b.shareSize(1) : b.published(), 0);
        } else {
            Check.badArgument(name, () -> filter ? b.shareSize(1) : b.published());
        }
        Check.due(name + ": error position", b.errorPosition(), want);
    }

    private static void errorsOfTopics() {
        String[] good = {"a", "0", "z9", "abcdef", "a/b", "a/b/c/d", "abcdef/ghijkl/mnopqr/012345"};
        for (String text : good) {
            error(text, false, -1);
            error(text, true, -1);
        }
        error("", false, 0);
        error("/", false, 0);
        error("a/", false, 2);
        error("a//b", false, 2);
        error("abcdefg", false, 6);
        error("a/abcdefg", false, 8);
        error("abcdef/", false, 7);
        error("a/b/c/d/", false, 7);
        error("a/b/c/d/e", false, 7);
        error("+", false, 0);
        error("#", false, 0);
        error("a/+", false, 2);
        error("a/#", false, 2);
        error("aA", false, 1);
        error("`", false, 0);
        error("{", false, 0);
        error(":", false, 0);
        error("a-b", false, 1);
        error("abcdef/ghijkl/mnopqr/0123456", false, 27);
    }

    private static void errorsOfFilters() {
        String[] good = {"#", "+", "+/#", "a/#", "+/+/+/+", "a/+/b/#", "+/a/+/b"};
        for (String text : good) {
            error(text, true, -1);
        }
        error("", true, 0);
        error("/", true, 0);
        error("a/", true, 2);
        error("+/", true, 2);
        error("a/#/", true, 3);
        error("#/a", true, 1);
        error("##", true, 1);
        error("#a", true, 1);
        error("#+", true, 1);
        error("++", true, 1);
        error("+a", true, 1);
        error("+#", true, 1);
        error("a+", true, 1);
        error("a#", true, 1);
        error("a/b/c/d/#", true, 7);
        error("+/+/+/+/", true, 7);
        error("abcdefg/#", true, 6);
        error("a//#", true, 2);
        error("a/b/c/#", true, -1);
        error("~", true, 0);
    }

    private static void whenTheTextIsRead() {
        GradedTopicBroker b = new GradedTopicBroker();
        Check.write(b, "a!");
        Check.outOfBounds("no such client", () -> b.audience(6));
        Check.due("not read before the client is looked at", b.errorPosition(), -1);
        Check.write(b, "a!");
        Check.badArgument("not a topic", () -> b.publish(5, 9, 0, false, -1));
        Check.due("read before the arguments are looked at", b.errorPosition(), 1);
        Check.write(b, "a");
        Check.outOfBounds("no such client again", () -> b.subscribe(-1, 0, 0, 0));
        Check.due("stays", b.errorPosition(), 1);
        Check.write(b, "a");
        Check.badArgument("wrong grade", () -> b.subscribe(0, 3, 0, 0));
        Check.due("read before the grade is looked at", b.errorPosition(), -1);
        Check.write(b, "a/");
        Check.badArgument("wrong text of an offline client", () -> b.setWill(0, 0, false, 0));
        Check.due("read before the connection is looked at", b.errorPosition(), 2);
        Check.write(b, "a");
        Check.badState("offline", () -> b.unsubscribe(0, 0));
        Check.due("good text of an offline client", b.errorPosition(), -1);
        Check.write(b, "#a");
        Check.badArgument("wrong text and group", () -> b.shareMember(4, -1));
        Check.due("read before the group is looked at", b.errorPosition(), 1);
        Check.write(b, "a");
        Check.badArgument("wrong group", () -> b.shareMember(0, -1));
        Check.due("wrong group, good text", b.errorPosition(), -1);
        Check.write(b, "#");
        Check.badArgument("a filter is no topic", () -> b.published());
        Check.write(b, "b");
        Check.due("append does not change it", b.errorPosition(), 0);
        b.published();
        Check.due("a good text does", b.errorPosition(), -1);
    }

    private static void theBufferIsEmptyAfterwards() {
        GradedTopicBroker b = new GradedTopicBroker();
        Check.write(b, "a");
        Check.outOfBounds("setWill", () -> b.setWill(6, 0, false, 0));
        Check.due("empty after setWill", b.append(0), 0);
        Check.write(b, "a");
        Check.outOfBounds("subscribe", () -> b.subscribe(6, 0, 0, 0));
        Check.due("empty after subscribe", b.append(0), 0);
        Check.write(b, "a");
        Check.badState("unsubscribe", () -> b.unsubscribe(0, 0));
        Check.due("empty after unsubscribe", b.append(0), 0);
        Check.write(b, "a");
        Check.badArgument("shareSize", () -> b.shareSize(0));
        Check.due("empty after shareSize", b.append(0), 0);
        Check.write(b, "a");
        Check.outOfBounds("shareMember", () -> b.shareMember(1, 0));
        Check.due("empty after shareMember", b.append(0), 0);
        Check.write(b, "a");
        Check.outOfBounds("publish", () -> b.publish(-1, 0, 0, false, 0));
        Check.due("empty after publish", b.append(0), 0);
        Check.write(b, "a");
        Check.outOfBounds("audience", () -> b.audience(-1));
        Check.due("empty after audience", b.append(0), 0);
        Check.write(b, "a!");
        Check.badArgument("published", () -> b.published());
        Check.due("empty after published", b.append(0), 0);
        Check.write(b, "ab");
        Check.outOfBounds("connect", () -> b.connect(6, true));
        b.advance(1);
        b.save();
        b.restore();
        Check.due("other calls leave it", b.append(0), 2);
    }

    private static void options() {
        GradedTopicBroker b = new GradedTopicBroker();
        int[] first = {3, 0, 20, 0};
        int[] least = {1, 0, 1, 0};
        int[] most = {5, 20, 100, 1};
        for (int i = 0; i < 4; i++) {
            int option = i;
            Check.due("first value", b.setOption(i, least[i]), first[i]);
            Check.due("least value", b.setOption(i, most[i]), least[i]);
            Check.badArgument("too small", () -> b.setOption(option, least[option] - 1));
            Check.badArgument("too great", () -> b.setOption(option, most[option] + 1));
            Check.badArgument("far too great", () -> b.setOption(option, Integer.MAX_VALUE));
            Check.due("greatest value", b.setOption(i, first[i]), most[i]);
        }
        Check.outOfBounds("option 4", () -> b.setOption(4, 1));
        Check.outOfBounds("option -1 with a wrong value", () -> b.setOption(-1, -1));
        Check.outOfBounds("far option", () -> b.setOption(Integer.MIN_VALUE, 1));
    }
}
