import java.util.function.ToIntFunction;

/** A test for each sentence on topics, filters and the buffer that names a boundary (promises 2 and 3 too). */
final class EdgesOfTextsTest {
    private static final String LONGEST = "abcdef/ghijkl/mnopqr/012345";
    private static final String PLAIN = "abcdefghijklmnopqrstuvwxyz0123456789";
    /** The methods that take a text; those that take a topic come first. */
    private static final int METHODS = 8;
    private static final int TOPIC_METHODS = 4;

    public static void main(String[] args) {
        levelsOfTopics();
        levelsOfFilters();
        signsOfLevels();
        firstSigns();
        secondSigns();
        seventhSigns();
        wildcardsAloneInTheirLevel();
        restOnlyAtTheEnd();
        matchingWithoutRest();
        matchingWithRest();
        matchingByWholeLevels();
        thirtyCharacters();
        bytesOfAnAppend();
        firstAndLastSign();
        theWholeBufferIsRead();
        everyMethodReadsItsKind();
        everyMethodEmptiesTheBuffer();
        emptyBuffer();
        theLatestTextSetsThePosition();
        methodsWithoutTextLeaveThePosition();
        Check.end();
    }

    private static ToIntFunction<GradedTopicBroker> method(int number) {
        switch (number) {
            case 0:
                return b -> b.published();
            case 1:
                return b -> b.audience(5);
            case 2:
                return b -> b.setWill(0, 0, false, 0);
            case 3:
                return b -> b.publish(0, 0, 0, false, 0);
            case 4:
                return b -> b.shareSize(1);
            case 5:
                return b -> b.shareMember(1, 0);
            case 6:
                return b -> b.subscribe(0, 0, 1, 0);
            default:
                return b -> b.unsubscribe(0, 1);
        }
    }

    /** The error position after a method has read the text; the client is connected, so that the text is all. */
    private static int errorOf(int number, String text) {
        GradedTopicBroker b = new GradedTopicBroker();
        b.connect(0, true);
        Check.write(b, text);
        Check.outcome(() -> method(number).applyAsInt(b));
        return b.errorPosition();
    }

    private static void topic(String text, int want) {
        Check.due("topic " + text, errorOf(0, text), want);
    }

    private static void filter(String text, int want) {
        Check.due("filter " + text, errorOf(4, text), want);
    }

    private static void both(String text, int want) {
        topic(text, want);
        filter(text, want);
    }

    // "A topic consists of 1 to 4 levels, separated by slashes"; "nor is the slash that would begin a fifth level"
    private static void levelsOfTopics() {
        both("", 0);
        both("a", -1);
        both("a/b", -1);
        both("a/b/c", -1);
        both("a/b/c/d", -1);
        both("a/b/c/d/", 7);
        both("a/b/c/d/e", 7);
        both("/", 0);
        both("/a", 0);
        both("a/", 2);
        both("a//", 2);
        both("a/b/", 4);
        both("a/b/c/", 6);
        both("a/b/c//", 6);
        both(LONGEST, -1);
        both(LONGEST + "/", 27);
    }

    private static void levelsOfFilters() {
        filter("+/+/+/+", -1);
        filter("+/+/+/#", -1);
        filter("+/+/+/+/", 7);
        filter("+/+/+/+/#", 7);
        filter("+/+/+/", 6);
        filter("+/", 2);
        filter("+//", 2);
        filter("#/", 1);
        filter("a/b/c/#/", 7);
        filter("abcdef/ghijkl/mnopqr/#", -1);
        filter("abcdef/ghijkl/mnopqr/+", -1);
    }

    // "a level consists of 1 to 6 characters"; "a seventh character of a level is not allowed"
    private static void signsOfLevels() {
        for (int level = 0; level < 4; level++) {
            String before = "a/".repeat(level);
            for (int size = 1; size <= 6; size++) {
                both(before + PLAIN.substring(0, size), -1);
            }
            both(before + "abcdefg", before.length() + 6);
            both(before + "abcdefg/", before.length() + 6);
            both(before + "0123456", before.length() + 6);
            both(before + "abcdef+", before.length() + 6);
            both(before + "abcdef#", before.length() + 6);
        }
    }

    // "characters a to z or 0 to 9": every sign of the buffer as the first one
    private static void firstSigns() {
        for (char sign = 33; sign <= 126; sign++) {
            boolean plain = PLAIN.indexOf(sign) >= 0;
            topic("" + sign, plain ? -1 : 0);
            filter("" + sign, plain || sign == '+' || sign == '#' ? -1 : 0);
            topic("z/" + sign, plain ? -1 : 2);
            filter("+/" + sign, plain || sign == '+' || sign == '#' ? -1 : 2);
        }
    }

    private static void secondSigns() {
        for (char sign = 33; sign <= 126; sign++) {
            boolean plain = PLAIN.indexOf(sign) >= 0;
            int want = plain ? -1 : sign == '/' ? 2 : 1;
            both("a" + sign, want);
            both("9" + sign, want);
            filter("+" + sign, sign == '/' ? 2 : 1);
            filter("#" + sign, 1);
        }
    }

    private static void seventhSigns() {
        for (char sign = 33; sign <= 126; sign++) {
            both("abcdef" + sign, sign == '/' ? 7 : 6);
            both("a/b/c/abcdef" + sign, 12);
        }
    }

    // "each level may also be the character +": nothing beside it
    private static void wildcardsAloneInTheirLevel() {
        filter("+", -1);
        filter("+/a", -1);
        filter("a/+", -1);
        filter("a/+/b", -1);
        filter("++", 1);
        filter("+a", 1);
        filter("a+", 1);
        filter("abcde+", 5);
        filter("a/b+", 3);
        filter("a/+b", 3);
        filter("a/+b/c", 3);
        filter("a#", 1);
        filter("a/b#", 3);
        filter("+#", 1);
        filter("#+", 1);
        filter("##", 1);
        topic("+", 0);
        topic("a/+", 2);
        topic("a/+/b", 2);
        topic("a+", 1);
        topic("#", 0);
        topic("a/#", 2);
        topic("a/b/c/#", 6);
    }

    // "and the last level, which may be the only one, may also be the character #"
    private static void restOnlyAtTheEnd() {
        filter("#", -1);
        filter("a/#", -1);
        filter("+/#", -1);
        filter("a/b/#", -1);
        filter("a/b/c/#", -1);
        filter("#/a", 1);
        filter("#/#", 1);
        filter("a/#/b", 3);
        filter("a/#/#", 3);
        filter("a/#b", 3);
    }

    private static void match(String filter, String topic, boolean want) {
        GradedTopicBroker b = new GradedTopicBroker();
        b.connect(0, false);
        Check.subscribe(b, 0, filter, 0, 0, 0);
        Check.due(filter + " matches " + topic, Check.write(b, topic).audience(0), want ? 1 : 0);
        Check.due(filter + " gets " + topic, Check.publish(b, 0, topic, 0, 0, 1), want ? 1 : 0);
        GradedTopicBroker share = new GradedTopicBroker();
        share.connect(0, false);
        Check.subscribe(share, 0, filter, 0, 3, 0);
        Check.due("share " + filter + " matches " + topic, Check.write(share, topic).audience(0), want ? 1 : 0);
        Check.due("share " + filter + " gets " + topic, Check.publish(share, 0, topic, 0, 0, 1), want ? 1 : 0);
        GradedTopicBroker later = new GradedTopicBroker();
        later.connect(0, false);
        Check.retain(later, 0, topic, 0, 1);
        Check.drain(later, 0);
        Check.subscribe(later, 0, filter, 0, 0, 0);
        Check.due(filter + " takes the retained " + topic, later.length(0, 0), want ? 1 : 0);
    }

    // "A filter without # matches a topic if both have the same number of levels"
    private static void matchingWithoutRest() {
        String[] topics = {"a", "a/b", "a/b/c", "a/b/c/d"};
        String[] filters = {"+", "+/+", "+/+/+", "+/+/+/+"};
        for (int i = 0; i < 4; i++) {
            for (int j = 0; j < 4; j++) {
                match(topics[i], topics[j], i == j);
                match(filters[i], topics[j], i == j);
            }
        }
        match("+/b/c/d", "x/b/c/d", true);
        match("a/b/c/+", "a/b/c/x", true);
        match("a/b/c/+", "a/b/x/d", false);
        match("x/b/c/+", "a/b/c/d", false);
    }

    // "at least as many levels as the filter has before #"; "so a/# also matches the topic a"
    private static void matchingWithRest() {
        String[] topics = {"a", "a/b", "a/b/c", "a/b/c/d"};
        String[] named = {"#", "a/#", "a/b/#", "a/b/c/#"};
        String[] open = {"#", "+/#", "+/+/#", "+/+/+/#"};
        for (int before = 0; before < 4; before++) {
            for (int levels = 1; levels <= 4; levels++) {
                match(named[before], topics[levels - 1], levels >= before);
                match(open[before], topics[levels - 1], levels >= before);
            }
        }
        match("a/#", "b", false);
        match("a/#", "b/a", false);
        match("a/b/#", "a/c", false);
        match("+/b/#", "a/c/b", false);
    }

    private static void matchingByWholeLevels() {
        match("a", "ab", false);
        match("ab", "a", false);
        match("a/#", "ab", false);
        match("a/#", "ab/c", false);
        match("ab/c", "a/bc", false);
        match("a0", "ap", false);
        match("ap", "a0", false);
        match("abcdef", "abcdef", true);
        match("abcdef", "abcdeg", false);
        match("abcdef", "bbcdef", false);
        match("0bcdef", "pbcdef", false);
        match("a/b/c/abcdef", "a/b/c/abcdeg", false);
        match(LONGEST, LONGEST, true);
        match("z", "0", false);
        match("00", "0", false);
    }

    // "A buffer holds at most 30 characters."
    private static void thirtyCharacters() {
        for (int more = 0; more <= 4; more++) {
            GradedTopicBroker b = new GradedTopicBroker();
            for (int i = 0; i < 28 - more; i++) {
                b.append('a');
            }
            Check.due("two less", b.append(0), 28 - more);
            int packed = more == 0 ? 0 : 0x61616161 << (32 - 8 * more);
            Check.due("28", b.append(packed), 28);
            Check.badState("31", () -> b.append(0x61616100));
            Check.badState("32", () -> b.append(0x61616161));
            Check.due("still 28", b.append(0), 28);
            Check.due("29", b.append(0x7e), 29);
            Check.badState("two more", () -> b.append(0x61000061));
            Check.due("30", b.append(0x21000000), 30);
            Check.due("nothing more", b.append(0), 30);
            Check.badState("one more", () -> b.append(0x00610000));
            Check.badArgument("one more that is none", () -> b.append(0x00200000));
        }
    }

    // "the bytes of an int from the most significant one to the least significant one, where bytes that are 0 are
    // skipped"
    private static void bytesOfAnAppend() {
        for (int mask = 0; mask < 16; mask++) {
            GradedTopicBroker b = new GradedTopicBroker();
            b.connect(0, false);
            int packed = 0;
            StringBuilder want = new StringBuilder();
            for (int i = 0; i < 4; i++) {
                if ((mask >> i & 1) != 0) {
                    packed |= "wxyz".charAt(i) << (24 - 8 * i);
                    want.append("wxyz".charAt(i));
                }
            }
            int bits = packed;
            Check.due("append mask " + mask, b.append(bits), want.length());
            if (mask != 0) {
                Check.due("publish", b.publish(0, 0, 0, false, 0), 0);
                Check.due("in this order", Check.write(b, want.toString()).published(), 1);
            }
        }
    }

    // "if a byte that is not 0 is not from 33 to 126"
    private static void firstAndLastSign() {
        for (int sign = 0; sign < 256; sign++) {
            for (int shift = 0; shift < 32; shift += 8) {
                GradedTopicBroker b = new GradedTopicBroker();
                int packed = sign << shift;
                if (sign == 0) {
                    Check.due("no sign", b.append(packed), 0);
                } else if (sign >= 33 && sign <= 126) {
                    Check.due("sign " + sign, b.append(packed), 1);
                } else {
                    Check.badArgument("sign " + sign, () -> b.append(packed));
                    Check.due("nothing appended", b.append(0), 0);
                }
            }
        }
    }

    // "read the whole buffer as one": all thirty characters
    private static void theWholeBufferIsRead() {
        both("abcdef/ghijkl/mnopqr/012345!!!", 27);
        both("abcdef/ghijkl/mnopqr/0123!5678", 25);
        both("!bcdef/ghijkl/mnopqr/012345678", 0);
        filter("abcdef/ghijkl/mnopqr/+/a/a/a/a", 22);
        filter("abcdef/ghijkl/mnopqr/#/#/#/#/#", 22);
        filter("+/+/+/++++++++++++++++++++++++", 7);
    }

    private static void everyMethodReadsItsKind() {
        for (int number = 0; number < METHODS; number++) {
            boolean filters = number >= TOPIC_METHODS;
            Check.due("topic, method " + number, errorOf(number, "a/b"), -1);
            Check.due("filter, method " + number, errorOf(number, "a/+"), filters ? -1 : 2);
            Check.due("rest, method " + number, errorOf(number, "a/b/#"), filters ? -1 : 4);
            Check.due("neither, method " + number, errorOf(number, "a/#/"), filters ? 3 : 2);
            Check.due("more must come, method " + number, errorOf(number, "a/"), 2);
            Check.due("empty, method " + number, errorOf(number, ""), 0);
            Check.due("longest, method " + number, errorOf(number, LONGEST), -1);
            Check.due("too long, method " + number, errorOf(number, LONGEST + "678"), 27);
        }
    }

    // "The buffer is empty after such a method, also if it throws any exception."
    private static void everyMethodEmptiesTheBuffer() {
        String[] texts = {"a", "a/", "+", "!", LONGEST, "abcdef/ghijkl/mnopqr/012345678"};
        for (int n = 0; n < METHODS; n++) {
            int number = n;
            for (String text : texts) {
                GradedTopicBroker b = new GradedTopicBroker();
                Check.write(b, text);
                Check.outcome(() -> method(number).applyAsInt(b));
                Check.due("empty without a connection", b.append(0), 0);
                b.connect(0, false);
                Check.write(b, text);
                Check.outcome(() -> method(number).applyAsInt(b));
                Check.due("empty with a connection", b.append(0), 0);
                Check.due("room for the next text", b.append(0x61616161), 4);
            }
        }
    }

    private static void emptyBuffer() {
        for (int n = 0; n < METHODS; n++) {
            int number = n;
            GradedTopicBroker b = new GradedTopicBroker();
            b.connect(0, false);
            Check.badArgument("empty buffer", () -> method(number).applyAsInt(b));
            Check.due("more must come", b.errorPosition(), 0);
            Check.due("still empty", b.append(0), 0);
        }
    }

    // "Returns the index of the character; -1 if that text had no error or no text was read."
    private static void theLatestTextSetsThePosition() {
        GradedTopicBroker b = new GradedTopicBroker();
        Check.due("no text was read", b.errorPosition(), -1);
        Check.write(b, "!");
        Check.due("not read yet", b.errorPosition(), -1);
        Check.badArgument("topic", () -> b.published());
        Check.due("first text", b.errorPosition(), 0);
        Check.badArgument("filter", () -> Check.write(b, "ab!").shareSize(1));
        Check.due("second text", b.errorPosition(), 2);
        Check.badArgument("good text of a wrong group", () -> Check.write(b, "ab").shareSize(9));
        Check.due("no error", b.errorPosition(), -1);
        Check.badArgument("wrong text of a wrong group", () -> Check.write(b, "a#").shareSize(9));
        Check.due("error", b.errorPosition(), 1);
        Check.outOfBounds("not read", () -> Check.write(b, "a").audience(6));
        Check.due("error stays", b.errorPosition(), 1);
        Check.due("read", Check.write(b, "a").audience(0), 0);
        Check.due("no error any more", b.errorPosition(), -1);
    }

    private static void methodsWithoutTextLeaveThePosition() {
        GradedTopicBroker b = new GradedTopicBroker();
        Check.badArgument("wrong text", () -> Check.write(b, "abc!").published());
        b.connect(0, false);
        b.release(0, 1);
        b.repeat(0);
        b.receive(0);
        b.lose(0);
        b.answer(0, 1, 1);
        b.advance(1);
        b.setOption(0, 5);
        b.save();
        b.restore();
        b.breakConnection(0);
        b.connect(0, false);
        b.disconnect(0);
        Check.badArgument("append", () -> b.append(1));
        b.append('a');
        Check.due("the position is as it was", b.errorPosition(), 3);
        Check.due("the buffer too", b.append(0), 1);
    }
}
