import java.util.function.Consumer;
import java.util.function.IntSupplier;
import java.util.function.Supplier;

/**
 * All that can be seen of a broker, but for its error position, as one text. Looking uses a broker up and an object
 * is promised for 512 calls only, so each part is seen on a broker made anew.
 */
final class Look {
    private static final String[] TOPICS = {"a", "b", "a/b", "c0", "w", "zz"};
    private static final String[] FILTERS = {"a", "a/+", "a/#", "#", "c1", "zz/+"};

    private final GradedTopicBroker b;
    private final StringBuilder seen = new StringBuilder();

    private Look(GradedTopicBroker broker) {
        b = broker;
    }

    static String at(Supplier<GradedTopicBroker> maker) {
        return part(maker, Look::buffer) + part(maker, Look::clients) + part(maker, Look::records)
                + part(maker, Look::shares) + part(maker, Look::queues) + part(maker, Look::kept)
                + part(maker, Look::options) + part(maker, Look::wills) + part(maker, Look::identifiers)
                + part(maker, Look::time) + part(maker, Look::snapshot);
    }

    private static String part(Supplier<GradedTopicBroker> maker, Consumer<Look> look) {
        Look one = new Look(maker.get());
        look.accept(one);
        return one.seen.append('\n').toString();
    }

    private boolean see(IntSupplier call) {
        String outcome = Check.outcome(call);
        seen.append(outcome).append(' ');
        return outcome.matches("-?[0-9]+");
    }

    private void buffer() {
        see(() -> b.append(0));
        present();
        see(() -> b.published());
        see(() -> b.errorPosition());
    }

    /** So that the texts that the look itself writes are read alone. */
    private void emptyBuffer() {
        Check.outcome(() -> b.shareSize(0));
    }

    private void present() {
        for (int i = 0; i < 6; i++) {
            int what = i;
            see(() -> b.packet(what));
        }
        for (int i = 0; i < 28; i++) {
            int index = i;
            if (!see(() -> b.topicCharacter(index))) {
                break;
            }
        }
    }

    private void clients() {
        for (int c = 0; c < 6; c++) {
            int client = c;
            see(() -> b.sessionState(client));
            see(() -> b.load(client));
            for (int i = 0; i < 5; i++) {
                int which = i;
                see(() -> b.length(client, which));
            }
            for (int i = 0; i < b.length(client, 4); i++) {
                int index = i;
                for (int k = 0; k < 4; k++) {
                    int what = k;
                    see(() -> b.subscription(client, index, what));
                }
                see(() -> b.relation(client, 0, index));
            }
            for (int i = 0; i < b.length(client, 1); i++) {
                int index = i;
                for (int k = 0; k < 5; k++) {
                    int what = k;
                    see(() -> b.inFlight(client, index, what));
                }
            }
        }
    }

    private void records() {
        see(() -> b.retainedCount());
        for (int i = 0; i < 9; i++) {
            int index = i;
            for (int k = 0; k < 3; k++) {
                int what = k;
                see(() -> b.retained(index, what));
            }
        }
        for (int i = 0; i < 10; i++) {
            int what = i;
            see(() -> b.total(what));
        }
        emptyBuffer();
        for (String topic : TOPICS) {
            see(() -> Check.write(b, topic).published());
            for (int c = 0; c < 6; c++) {
                int client = c;
                see(() -> Check.write(b, topic).audience(client));
            }
        }
    }

    private void shares() {
        emptyBuffer();
        for (String filter : FILTERS) {
            for (int g = 1; g < 4; g++) {
                int group = g;
                see(() -> Check.write(b, filter).shareSize(group));
                for (int i = 0; i < 6; i++) {
                    int index = i;
                    if (!see(() -> Check.write(b, filter).shareMember(group, index))) {
                        break;
                    }
                }
            }
        }
    }

    private void queues() {
        for (int c = 0; c < 6; c++) {
            int client = c;
            for (int i = 0; i < 31; i++) {
                see(() -> b.receive(client));
                if (b.length(client, 0) > 0 || i == 0) {
                    present();
                } else {
                    break;
                }
            }
        }
    }

    private void kept() {
        for (int c = 0; c < 6; c++) {
            int client = c;
            for (int i = 1; i <= 50; i++) {
                int identifier = i;
                see(() -> b.release(client, identifier));
            }
        }
    }

    private void options() {
        int[] least = {1, 0, 1, 0};
        for (int i = 0; i < 4; i++) {
            int option = i;
            see(() -> b.setOption(option, least[option]));
        }
    }

    private void wills() {
        for (int c = 0; c < 6; c++) {
            int client = c;
            see(() -> b.breakConnection(client));
        }
        clients();
        records();
    }

    private void identifiers() {
        emptyBuffer();
        b.setOption(0, 5);
        for (int c = 0; c < 6; c++) {
            int client = c;
            see(() -> b.connect(client, false));
            see(() -> Check.write(b, "zz").subscribe(client, 1, 0, 2));
            see(() -> Check.write(b, "zz").publish(client, 1, 50, false, 9));
        }
        clients();
    }

    private void time() {
        see(() -> b.advance(1));
        clients();
        see(() -> b.advance(18));
        clients();
    }

    private void snapshot() {
        if (see(() -> b.restore())) {
            clients();
            records();
        }
    }
}
