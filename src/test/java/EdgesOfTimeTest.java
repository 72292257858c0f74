/** A test for each sentence on time, options, totals, counts and snapshots that names a boundary. */
final class EdgesOfTimeTest {
    public static void main(String[] args) {
        ticks();
        manyTicksAreSingleTicks();
        boundsOfOptions();
        optionsAreUsedAtTheNextEvent();
        timeoutTicks();
        eachMessageHasItsOwnTime();
        orderOfResending();
        noTimeoutWhileOffline();
        answersStartTheTimeAnew();
        loadsOfEachTick();
        loadsKeepFractions();
        expiryTicks();
        offlineSinceTheLastConnection();
        onlyOfflineSessionsExpire();
        allExpireAtOnce();
        eachTotal();
        totalOfDropped();
        totalOfResent();
        publishedOfEachTopic();
        retainedPlaces();
        nothingSaved();
        snapshotsAreReplaced();
        snapshotOfANewBroker();
        whatSnapshotsLeaveOut();
        countsAfterRestore();
        flightsAfterRestore();
        Check.end();
    }

    private static GradedTopicBroker two() {
        GradedTopicBroker b = new GradedTopicBroker();
        b.connect(0, false);
        b.connect(1, false);
        Check.subscribe(b, 0, "a", 2, 0, 0);
        return b;
    }

    // "the number of ticks, 1 to 100"
    private static void ticks() {
        GradedTopicBroker b = new GradedTopicBroker();
        Check.due("the clock is 0 at first", b.save(), 0);
        Check.due("1", b.advance(1), 1);
        Check.due("100", b.advance(100), 101);
        Check.badArgument("0", () -> b.advance(0));
        Check.badArgument("101", () -> b.advance(101));
        Check.badArgument("-1", () -> b.advance(-1));
        Check.due("the clock is as it was", b.save(), 101);
        for (int i = 1; i <= 400; i++) {
            Check.due("the clock goes on", b.advance(100), 101 + 100 * i);
        }
    }

    private static void manyTicksAreSingleTicks() {
        GradedTopicBroker one = two();
        GradedTopicBroker many = two();
        one.setOption(1, 3);
        many.setOption(1, 3);
        Check.publish(one, 1, "a", 1, 1, 1);
        Check.publish(many, 1, "a", 1, 1, 1);
        one.disconnect(1);
        many.disconnect(1);
        for (int i = 1; i <= 40; i++) {
            Check.due("clock", one.advance(1), i);
        }
        Check.due("clock", many.advance(40), 40);
        Check.due("sent again", one.total(4), 13);
        Check.due("sent again", many.total(4), 13);
        Check.due("load", many.load(0), one.load(0));
        Check.due("packets", many.length(0, 0), 14);
        Check.due("session", many.sessionState(1), 0);
        Check.due("latest packet", many.inFlight(0, 0, 4), 39);
    }

    // "the window (1 to 5, at first 3), option 1 the timeout (0 to 20, at first 0), option 2 the expiry (1 to 100,
    // at first 20), and option 3 the overflow policy (0 or 1, at first 0)"
    private static void boundsOfOptions() {
        int[] first = {3, 0, 20, 0};
        int[] least = {1, 0, 1, 0};
        int[] most = {5, 20, 100, 1};
        for (int o = 0; o < 4; o++) {
            int option = o;
            GradedTopicBroker b = new GradedTopicBroker();
            int before = first[o];
            for (int v = least[o]; v <= most[o]; v++) {
                Check.due("value " + v, b.setOption(o, v), before);
                before = v;
            }
            Check.badArgument("too great", () -> b.setOption(option, most[option] + 1));
            Check.badArgument("too small", () -> b.setOption(option, least[option] - 1));
            Check.due("as it was", b.setOption(o, least[o]), most[o]);
            for (int other = 0; other < 4; other++) {
                Check.due("the others", b.setOption(other, first[other]), other == o ? least[o] : first[other]);
            }
        }
    }

    // "A change takes effect at the next event for which the option is used."
    private static void optionsAreUsedAtTheNextEvent() {
        GradedTopicBroker b = two();
        b.connect(2, false);
        b.disconnect(2);
        for (int i = 0; i < 4; i++) {
            Check.publish(b, 1, "a", 1, 1, i);
        }
        b.advance(10);
        int sent = b.length(0, 0);
        b.setOption(1, 1);
        b.setOption(2, 1);
        b.setOption(0, 5);
        Check.due("nothing is sent by it", b.length(0, 0), sent);
        Check.due("nothing expires by it", b.sessionState(2), 1);
        Check.due("nothing gets in flight by it", b.length(0, 1), 3);
        b.advance(1);
        Check.due("three are sent by the tick", b.length(0, 0), sent + 3);
        Check.due("it expires by the tick", b.sessionState(2), 0);
        b.setOption(1, 0);
        b.advance(5);
        Check.due("no timeout any more", b.length(0, 0), sent + 3);
    }

    // "whose latest packet was sent at least timeout ticks ago": 1 to 20, and never with 0
    private static void timeoutTicks() {
        for (int timeout = 1; timeout <= 20; timeout++) {
            GradedTopicBroker b = two();
            b.setOption(1, timeout);
            b.advance(7);
            Check.publish(b, 1, "a", 1, 1, 5);
            Check.drain(b, 0);
            if (timeout > 1) {
                b.advance(timeout - 1);
            }
            Check.due("one tick less", b.total(4), 0);
            Check.noPacket("one tick less", b, 0);
            b.advance(1);
            Check.due("sent again", b.total(4), 1);
            Check.packet("sent again", b, 0, Check.parts(0, 1, 1, 5, 1), "a");
            Check.due("now", b.inFlight(0, 0, 4), 7 + timeout);
            b.advance(timeout);
            Check.due("once more", b.total(4), 2);
        }
        GradedTopicBroker b = two();
        Check.publish(b, 1, "a", 1, 1, 5);
        b.advance(100);
        b.advance(100);
        Check.due("never", b.total(4), 0);
        b.setOption(1, 20);
        b.advance(1);
        Check.due("more than timeout ticks ago", b.total(4), 1);
    }

    private static void eachMessageHasItsOwnTime() {
        GradedTopicBroker b = two();
        b.setOption(1, 4);
        for (int i = 1; i <= 3; i++) {
            Check.publish(b, 1, "a", 1, 1, i);
            b.advance(1);
        }
        Check.drain(b, 0);
        for (int i = 1; i <= 3; i++) {
            b.advance(1);
            Check.packet("its turn", b, 0, Check.parts(0, i, 1, i, 1), "a");
            Check.noPacket("not the others", b, 0);
        }
        b.advance(1);
        Check.noPacket("none", b, 0);
        b.advance(1);
        Check.packet("the first once more", b, 0, Check.parts(0, 1, 1, 1, 1), "a");
    }

    // "in the order in which they got in flight": not of their identifiers
    private static void orderOfResending() {
        GradedTopicBroker b = two();
        for (int i = 1; i <= 49; i++) {
            Check.publish(b, 1, "a", 1, 1, i);
            b.answer(0, 1, i);
        }
        Check.publish(b, 1, "a", 1, 1, 50);
        Check.publish(b, 1, "a", 2, 1, 51);
        Check.publish(b, 1, "a", 1, 1, 52);
        Check.drain(b, 0);
        b.answer(0, 2, 1);
        Check.drain(b, 0);
        b.setOption(1, 1);
        b.advance(1);
        Check.packet("first", b, 0, Check.parts(0, 50, 1, 50, 1), "a");
        Check.packet("second", b, 0, Check.parts(3, 1, 0, 0, 0), "");
        Check.packet("third", b, 0, Check.parts(0, 2, 1, 52, 1), "a");
        Check.noPacket("no more", b, 0);
        b.connect(0, false);
        Check.packet("first on resumption", b, 0, Check.parts(0, 50, 1, 50, 1), "a");
        Check.packet("second on resumption", b, 0, Check.parts(3, 1, 0, 0, 0), "");
        Check.packet("third on resumption", b, 0, Check.parts(0, 2, 1, 52, 1), "a");
        Check.due("sent again", b.total(4), 6);
    }

    // "for each connected client"
    private static void noTimeoutWhileOffline() {
        GradedTopicBroker b = two();
        b.setOption(1, 1);
        Check.publish(b, 1, "a", 1, 1, 5);
        b.breakConnection(0);
        b.advance(10);
        Check.due("nothing", b.total(4), 0);
        Check.due("sent before", b.inFlight(0, 0, 4), 0);
        b.connect(0, false);
        Check.due("on resumption", b.total(4), 1);
        Check.due("sent now", b.inFlight(0, 0, 4), 10);
        b.advance(1);
        Check.due("by the timeout", b.total(4), 2);
        Check.due("pending ones are not", b.length(0, 2), 0);
    }

    private static void answersStartTheTimeAnew() {
        GradedTopicBroker b = two();
        b.setOption(1, 3);
        Check.publish(b, 1, "a", 2, 1, 5);
        b.advance(2);
        b.answer(0, 2, 1);
        b.advance(2);
        Check.due("the release was sent two ticks ago", b.total(4), 0);
        b.answer(0, 2, 1);
        b.advance(2);
        Check.due("and again", b.total(4), 0);
        b.answer(0, 1, 1);
        b.advance(1);
        Check.due("an answer that does not fit does nothing", b.total(4), 1);
    }

    // "the load of each client becomes load * 0.75f + n * 0.25f"
    private static void loadsOfEachTick() {
        for (int sent = 0; sent <= 32; sent++) {
            GradedTopicBroker b = new GradedTopicBroker();
            b.connect(3, false);
            for (int i = 0; i < sent; i++) {
                b.release(3, 1);
            }
            Check.due("0.0f before", b.load(3), 0);
            b.advance(1);
            Check.due("a quarter, lost ones included", b.load(3), 250 * sent);
            b.advance(1);
            Check.due("three quarters of it", b.load(3), (int) (sent * 0.25f * 0.75f * 1000.0f));
            Check.due("of no other client", b.load(2), 0);
        }
    }

    private static void loadsKeepFractions() {
        GradedTopicBroker b = two();
        b.setOption(1, 2);
        Check.publish(b, 1, "a", 1, 1, 5);
        float load = 0.0f;
        for (int tick = 1; tick <= 60; tick++) {
            int sent = tick == 1 || tick % 2 == 0 ? 1 : 0;
            load = load * 0.75f + sent * 0.25f;
            b.advance(1);
            Check.due("load at " + tick, b.load(0), (int) (load * 1000.0f));
            b.lose(0);
        }
        b.answer(0, 1, 1);
        b.advance(100);
        for (int tick = 0; tick < 100; tick++) {
            load = load * 0.75f;
        }
        Check.due("fades", b.load(0), (int) (load * 1000.0f));
    }

    // "every session is removed that has been offline for at least expiry ticks": 1 to 100
    private static void expiryTicks() {
        int[] expiries = {1, 2, 19, 20, 21, 99, 100};
        for (int expiry : expiries) {
            GradedTopicBroker b = two();
            b.setOption(2, expiry);
            b.advance(3);
            b.disconnect(0);
            if (expiry > 1) {
                b.advance(expiry - 1);
            }
            Check.due("one tick less", b.sessionState(0), 1);
            Check.due("one tick less", b.total(7), 0);
            Check.due("one tick less", b.length(0, 4), 1);
            b.advance(1);
            Check.due("removed", b.sessionState(0), 0);
            Check.due("removed", b.total(7), 1);
            Check.due("removed", b.length(0, 4), 0);
        }
        GradedTopicBroker b = two();
        b.disconnect(0);
        b.advance(19);
        Check.due("20 at first", b.sessionState(0), 1);
        b.advance(1);
        Check.due("20 at first", b.sessionState(0), 0);
    }

    // "A session has been offline since the clock when its client was connected last."
    private static void offlineSinceTheLastConnection() {
        GradedTopicBroker b = two();
        b.advance(50);
        b.disconnect(0);
        b.advance(19);
        b.connect(0, false);
        b.advance(19);
        b.breakConnection(0);
        b.advance(19);
        Check.due("still there", b.sessionState(0), 1);
        Check.due("resumed", b.connect(0, false), 1);
        b.disconnect(0);
        b.advance(19);
        Check.due("still there", b.sessionState(0), 1);
        b.advance(1);
        Check.due("gone", b.sessionState(0), 0);
        Check.due("a new one", b.connect(0, false), 0);
    }

    private static void onlyOfflineSessionsExpire() {
        GradedTopicBroker b = two();
        b.setOption(2, 1);
        b.connect(2, true);
        b.advance(100);
        Check.due("persistent", b.sessionState(0), 2);
        Check.due("clean", b.sessionState(2), 3);
        Check.due("none", b.sessionState(3), 0);
        Check.due("none expired", b.total(7), 0);
        b.disconnect(2);
        b.advance(100);
        Check.due("a clean one does not expire", b.total(7), 0);
    }

    private static void allExpireAtOnce() {
        GradedTopicBroker b = new GradedTopicBroker();
        for (int c = 0; c < 6; c++) {
            b.connect(c, false);
            Check.subscribe(b, c, "a", 1, 1, 0);
            b.disconnect(c);
        }
        b.advance(19);
        Check.due("six members", Check.write(b, "a").shareSize(1), 6);
        b.advance(1);
        Check.due("no member", Check.write(b, "a").shareSize(1), 0);
        Check.due("six expired", b.total(7), 6);
        b.advance(100);
        Check.due("not twice", b.total(7), 6);
    }

    private static void totals(String what, GradedTopicBroker b, int... want) {
        for (int i = 0; i < 10; i++) {
            Check.due(what + ": total " + i, b.total(i), want[i]);
        }
    }

    // each of the totals 0 to 9, one event after the other
    private static void eachTotal() {
        GradedTopicBroker b = two();
        totals("at first", b, 0, 0, 0, 0, 0, 0, 0, 0, 0, 0);
        Check.publish(b, 1, "b", 2, 1, 1);
        totals("published", b, 1, 0, 0, 0, 0, 0, 0, 0, 0, 0);
        Check.publish(b, 1, "a", 2, 2, 1);
        totals("given", b, 2, 1, 0, 0, 0, 0, 0, 0, 0, 0);
        Check.publish(b, 1, "a", 2, 2, 1);
        totals("suppressed", b, 2, 1, 0, 1, 0, 0, 0, 0, 0, 0);
        b.answer(0, 2, 1);
        totals("received is not ended", b, 2, 1, 0, 1, 0, 0, 0, 0, 0, 0);
        b.answer(0, 4, 1);
        totals("ended", b, 2, 1, 0, 1, 0, 0, 0, 0, 0, 1);
        b.answer(0, 4, 1);
        b.release(1, 2);
        totals("ignored answer, release", b, 2, 1, 0, 1, 0, 0, 0, 0, 0, 1);
        b.connect(1, false);
        totals("takeover", b, 2, 1, 0, 1, 0, 1, 0, 0, 0, 1);
        Check.write(b, "a").setWill(1, 1, true, 5);
        b.breakConnection(1);
        totals("will", b, 3, 2, 0, 1, 0, 1, 1, 0, 0, 1);
        Check.subscribe(b, 0, "a", 0, 0, 0);
        totals("a retained copy", b, 3, 3, 0, 1, 0, 1, 1, 0, 0, 1);
        b.advance(20);
        totals("expired", b, 3, 3, 0, 1, 0, 1, 1, 1, 0, 1);
        b.disconnect(0);
        b.connect(0, false);
        totals("resumption", b, 3, 3, 0, 1, 1, 1, 1, 1, 0, 1);
        for (int i = 0; i < 30; i++) {
            b.release(0, 1);
        }
        totals("lost", b, 3, 3, 0, 1, 1, 1, 1, 1, 1, 1);
        Check.badArgument("total 10", () -> b.total(10));
        Check.badArgument("total -1", () -> b.total(-1));
    }

    // "1 for copies given to sessions, retained and dropped ones included, 2 for messages dropped"
    private static void totalOfDropped() {
        GradedTopicBroker b = two();
        b.disconnect(0);
        Check.due("grade 0", Check.publish(b, 1, "a", 0, 1, 1), 1);
        Check.due("dropped", b.total(2), 1);
        for (int i = 1; i <= 8; i++) {
            Check.publish(b, 1, "a", 1, 1, i);
        }
        Check.due("pending ones are not", b.total(2), 1);
        Check.due("grade 0 behind full ones", Check.publish(b, 1, "a", 0, 1, 1), 1);
        Check.due("dropped", b.total(2), 2);
        Check.due("the ninth", Check.publish(b, 1, "a", 1, 1, 9), 1);
        Check.due("dropped", b.total(2), 3);
        b.setOption(3, 1);
        Check.due("the tenth", Check.publish(b, 1, "a", 2, 1, 10), 1);
        Check.due("the first one is dropped", b.total(2), 4);
        Check.due("all were given", b.total(1), 12);
        Check.due("audience counts them too", Check.write(b, "a").audience(1), 1);
        b.advance(20);
        Check.due("those of a removed session are not", b.total(2), 4);
    }

    // "4 for packets sent again by timeouts or on resumption"
    private static void totalOfResent() {
        GradedTopicBroker b = two();
        for (int i = 1; i <= 4; i++) {
            Check.publish(b, 1, "a", 2, i, i);
        }
        b.answer(0, 2, 1);
        b.answer(0, 2, 1);
        Check.due("a release by an answer is not", b.total(4), 0);
        b.repeat(0);
        Check.due("a repeated packet is not", b.total(4), 0);
        b.connect(0, false);
        Check.due("two messages and a release", b.total(4), 3);
        Check.due("but not the pending one", b.length(0, 2), 1);
        b.setOption(1, 20);
        b.advance(20);
        Check.due("by timeouts", b.total(4), 6);
        b.connect(0, true);
        Check.due("a clean session sends nothing again", b.total(4), 6);
    }

    // "Returns the number, wills included and suppressed duplicates not included."
    private static void publishedOfEachTopic() {
        GradedTopicBroker b = two();
        Check.due("none", Check.write(b, "a").published(), 0);
        for (int i = 1; i <= 3; i++) {
            Check.publish(b, 1, "a", 0, 0, 1);
            Check.due("counted", Check.write(b, "a").published(), i);
        }
        Check.publish(b, 1, "a", 2, 1, 1);
        Check.publish(b, 1, "a", 2, 1, 1);
        Check.due("a duplicate is not", Check.write(b, "a").published(), 4);
        Check.write(b, "a").setWill(1, 0, false, 1);
        Check.due("a will that is set is not", Check.write(b, "a").published(), 4);
        b.connect(1, false);
        Check.due("a will that is published is", Check.write(b, "a").published(), 5);
        Check.retain(b, 1, "a", 0, 0);
        Check.due("without subscribers, with payload 0", Check.write(b, "a").published(), 6);
        String[] others = {"a/a", "aa", "b", "0", "abcdef/abcdef/abcdef/abcdef"};
        for (String other : others) {
            Check.due("others", Check.write(b, other).published(), 0);
        }
        Check.publish(b, 1, "abcdef/abcdef/abcdef/abcdef", 0, 0, 1);
        Check.due("the longest", Check.write(b, "abcdef/abcdef/abcdef/abcdef").published(), 1);
        Check.due("the one before", Check.write(b, "abcdef/abcdef/abcdef/abcdee").published(), 0);
        Check.due("all", b.total(0), 7);
    }

    // "the place of its topic in the ascending order of topics, from 0"
    private static void retainedPlaces() {
        GradedTopicBroker b = two();
        Check.outOfBounds("none", () -> b.retained(0, 0));
        String[] topics = {"m", "b", "z", "a", "y", "c", "x", "d"};
        for (int i = 0; i < 8; i++) {
            Check.retain(b, 1, topics[i], 0, topics[i].charAt(0));
            int count = i + 1;
            Check.due("count", b.retainedCount(), count);
            for (int k = 1; k < count; k++) {
                Check.due("ascending", b.retained(k - 1, 1) < b.retained(k, 1) ? 1 : 0, 1);
            }
            Check.outOfBounds("behind", () -> b.retained(count, 0));
            Check.outOfBounds("before", () -> b.retained(-1, 0));
        }
        Check.badArgument("part 3", () -> b.retained(7, 3));
        Check.badArgument("part -1", () -> b.retained(0, -1));
    }

    // "if nothing was saved"
    private static void nothingSaved() {
        GradedTopicBroker b = two();
        Check.badState("restore", () -> b.restore());
        b.advance(5);
        Check.badState("restore", () -> b.restore());
        Check.due("nothing happened", b.advance(1), 6);
        Check.due("save", b.save(), 6);
        Check.due("restore", b.restore(), 6);
    }

    // "replacing an earlier snapshot"; "Restores the snapshot, which is kept."
    private static void snapshotsAreReplaced() {
        GradedTopicBroker b = two();
        b.advance(1);
        Check.due("first", b.save(), 1);
        b.disconnect(0);
        b.advance(1);
        Check.due("second", b.save(), 2);
        b.connect(0, true);
        for (int i = 0; i < 3; i++) {
            b.advance(7);
            Check.due("the second one, each time", b.restore(), 2);
            Check.due("its session", b.sessionState(0), 1);
            b.connect(0, i == 1);
        }
        b.restore();
        Check.due("a third one", b.advance(3), 5);
        Check.due("a third one", b.save(), 5);
        b.advance(100);
        Check.due("restored", b.restore(), 5);
        Check.due("restored", b.sessionState(0), 1);
    }

    private static void snapshotOfANewBroker() {
        GradedTopicBroker b = new GradedTopicBroker();
        Check.due("saved", b.save(), 0);
        for (int c = 0; c < 6; c++) {
            b.connect(c, c % 2 == 0);
            Check.subscribe(b, c, "#", 2, c % 4, 0);
        }
        Check.retain(b, 3, "a", 2, 5);
        Check.write(b, "a").setWill(0, 1, true, 5);
        b.breakConnection(0);
        for (int i = 0; i < 4; i++) {
            b.setOption(i, 1);
        }
        b.advance(3);
        Check.due("restored", b.restore(), 0);
        for (int c = 0; c < 6; c++) {
            int client = c;
            Check.due("no session", b.sessionState(c), 0);
            Check.due("no load", b.load(c), 0);
            for (int which = 0; which < 5; which++) {
                Check.due("no length", b.length(c, which), 0);
            }
            Check.badState("no connection", () -> b.receive(client));
        }
        totals("no totals", b, 0, 0, 0, 0, 0, 0, 0, 0, 0, 0);
        Check.due("nothing retained", b.retainedCount(), 0);
        int[] first = {3, 0, 20, 0};
        for (int i = 0; i < 4; i++) {
            Check.due("option " + i, b.setOption(i, first[i]), first[i]);
        }
        for (int group = 1; group < 4; group++) {
            Check.due("no share", Check.write(b, "#").shareSize(group), 0);
        }
        Check.due("nothing published", Check.write(b, "a").published(), 0);
        b.advance(1);
        Check.due("nothing was sent", b.load(3), 0);
        b.connect(0, false);
        Check.due("no will", b.breakConnection(0), 0);
    }

    // "everything except the buffer, the error position and the present packet"
    private static void whatSnapshotsLeaveOut() {
        GradedTopicBroker b = two();
        b.release(0, 1);
        b.release(0, 2);
        Check.write(b, "x");
        b.save();
        Check.due("the buffer is left alone by save", b.append(0), 1);
        Check.due("no error", b.errorPosition(), -1);
        b.receive(0);
        Check.badArgument("error", () -> Check.write(b, "y!").published());
        Check.write(b, "abc");
        b.restore();
        Check.due("buffer", b.append(0), 3);
        Check.due("error position", b.errorPosition(), 2);
        Check.due("present packet", b.packet(1), 1);
        Check.due("it is in the queue again", b.receive(0), 4);
        Check.due("the same packet", b.packet(1), 1);
        b.receive(0);
        b.save();
        Check.due("the present packet is left alone by save", b.packet(1), 2);
        Check.due("the text", b.published(), 0);
        Check.publish(b, 1, "abc", 0, 0, 1);
        Check.due("the text was abc", Check.write(b, "abc").published(), 1);
    }

    /** A topic that is published after a restored snapshot is not counted on top of one that came later. */
    private static void countsAfterRestore() {
        GradedTopicBroker b = two();
        Check.publish(b, 1, "a", 0, 0, 1);
        b.save();
        Check.publish(b, 1, "b", 0, 0, 1);
        Check.publish(b, 1, "b", 0, 0, 1);
        Check.publish(b, 1, "a", 0, 0, 1);
        b.restore();
        Check.due("b was not published", Check.write(b, "b").published(), 0);
        Check.publish(b, 1, "c", 0, 0, 1);
        Check.due("a", Check.write(b, "a").published(), 1);
        Check.due("b", Check.write(b, "b").published(), 0);
        Check.due("c", Check.write(b, "c").published(), 1);
        b.restore();
        Check.publish(b, 1, "b", 0, 0, 1);
        Check.due("b now", Check.write(b, "b").published(), 1);
        Check.due("c no more", Check.write(b, "c").published(), 0);
        Check.due("all", b.total(0), 2);
    }

    private static void flightsAfterRestore() {
        GradedTopicBroker b = two();
        for (int i = 1; i <= 11; i++) {
            Check.publish(b, 1, "a", 1, 1, i);
        }
        b.save();
        for (int i = 1; i <= 11; i++) {
            b.answer(0, 1, i);
        }
        Check.due("all ended", b.length(0, 1), 0);
        for (int i = 1; i <= 3; i++) {
            Check.publish(b, 1, "a", 2, i, 100 + i);
        }
        b.restore();
        for (int i = 1; i <= 11; i++) {
            Check.due("payload", b.inFlight(0, 0, 2), i);
            Check.due("identifier", b.inFlight(0, 0, 0), i);
            Check.due("grade", b.inFlight(0, 0, 1), 1);
            Check.due("answer", b.answer(0, 1, i), 1);
        }
        Check.due("none left", b.length(0, 1), 0);
        Check.due("ended", b.total(9), 11);
    }
}
