/**
 * A publish-subscribe broker with retained messages, shared groups, delivery grades, sessions and wills,
 * over network queues in which packets can be lost and repeated.
 *
 * <p>All rows are made in the constructor and used again, because everything that the calls make is counted;
 * a call makes at most the text that it reads from the buffer.
 */
public final class GradedTopicBroker {
    private static final int CLIENT_LIMIT = 6;
    private static final int BUFFER_LIMIT = 30;
    private static final int LEVEL_LIMIT = 4;
    private static final int LEVEL_SIGN_LIMIT = 6;
    private static final int QUEUE_LIMIT = 30;
    private static final int FLIGHT_LIMIT = 5;
    private static final int PENDING_LIMIT = 8;
    private static final int SUBSCRIPTION_LIMIT = 6;
    private static final int RETAINED_LIMIT = 8;
    private static final int IDENTIFIER_LIMIT = 50;
    private static final int TICK_LIMIT = 100;
    /** Six clients with six subscriptions each can not belong to more shares. */
    private static final int SHARE_LIMIT = 36;
    /** Every new topic takes a call, and an object is used for 512 calls. */
    private static final int TOPIC_LIMIT = 512;

    private static final int GREATEST_GRADE = 2;
    private static final int GREATEST_GROUP = 3;
    private static final int GREATEST_PAYLOAD = 9999;
    private static final int GREATEST_OPTIONS = 7;

    private static final int NOT_OWN = 1;
    private static final int NO_RETAINED = 2;
    private static final int RETAINED_IF_NEW = 4;

    private static final char SLASH = '/';
    private static final char ANY_LEVEL = '+';
    private static final char ANY_REST = '#';
    private static final int SIGN_BITS = 7;

    private static final int MESSAGE = 0;
    private static final int ACKNOWLEDGED = 1;
    private static final int RECEIVED = 2;
    private static final int RELEASE = 3;
    private static final int COMPLETE = 4;

    private static final int DUPLICATE_FLAG = 1;
    private static final int RETAINED_FLAG = 2;

    private static final int WINDOW = 0;
    private static final int TIMEOUT = 1;
    private static final int EXPIRY = 2;
    private static final int OVERFLOW = 3;
    private static final int[] OPTION_LEAST = {1, 0, 1, 0};
    private static final int[] OPTION_GREATEST = {5, 20, 100, 1};
    private static final int[] OPTION_FIRST = {3, 0, 20, 0};

    private static final int TOTAL_PUBLISHED = 0;
    private static final int TOTAL_GIVEN = 1;
    private static final int TOTAL_DROPPED = 2;
    private static final int TOTAL_SUPPRESSED = 3;
    private static final int TOTAL_RESENT = 4;
    private static final int TOTAL_TAKEOVERS = 5;
    private static final int TOTAL_WILLS = 6;
    private static final int TOTAL_EXPIRED = 7;
    private static final int TOTAL_LOST = 8;
    private static final int TOTAL_ENDED = 9;
    private static final int TOTAL_KINDS = 10;

    private final char[] buffer;
    private int bufferSize;
    private int errorPosition;
    private boolean hasPresent;
    private final Packet present;
    private final Message incoming;
    private final State state;
    private boolean hasSnapshot;
    private final State snapshot;

    public GradedTopicBroker() {
        Text blank = new Text(new char[0], 0);
        buffer = new char[BUFFER_LIMIT];
        errorPosition = -1;
        present = new Packet(blank);
        incoming = new Message(blank);
        state = new State(blank);
        snapshot = new State(blank);
    }

    // ---- buffer and options

    public int append(int packed) throws IllegalArgumentException, IllegalStateException {
        int more = 0;
        for (int shift = 24; shift >= 0; shift -= 8) {
            int sign = packed >>> shift & 255;
            if (sign != 0) {
                if (sign < 33 || sign > 126) {
                    throw new IllegalArgumentException();
                }
                more++;
            }
        }
        if (bufferSize + more > BUFFER_LIMIT) {
            throw new IllegalStateException();
        }
        for (int shift = 24; shift >= 0; shift -= 8) {
            int sign = packed >>> shift & 255;
            if (sign != 0 && bufferSize >= 0 && bufferSize < buffer.length) {
                buffer[bufferSize] = (char) sign;
                bufferSize++;
            }
        }
        return bufferSize;
    }

    public int errorPosition() {
        return errorPosition;
    }

    public int setOption(int option, int value) throws IndexOutOfBoundsException, IllegalArgumentException {
        if (option < 0 || option >= OPTION_FIRST.length) {
            throw new IndexOutOfBoundsException();
        }
        if (value < OPTION_LEAST[option] || value > OPTION_GREATEST[option]) {
            throw new IllegalArgumentException();
        }
        int before = state.options[option];
        state.options[option] = value;
        return before;
    }

    // ---- sessions

    public int connect(int client, boolean clean) throws IndexOutOfBoundsException {
        requireClient(client);
        Client party = state.clients[client];
        if (party.connected) {
            state.totals[TOTAL_TAKEOVERS]++;
            state.failConnection(client);
        }
        if (clean && party.session.exists) {
            state.removeSession(client);
        }
        party.connected = true;
        if (!party.session.exists) {
            party.session.begin(clean);
            return 0;
        }
        state.resume(party);
        return 1;
    }

    public int disconnect(int client) throws IndexOutOfBoundsException, IllegalStateException {
        requireClient(client);
        requireConnection(client);
        Client party = state.clients[client];
        party.hasWill = false;
        state.endConnection(client);
        return party.session.exists ? 1 : 0;
    }

    public int breakConnection(int client) throws IndexOutOfBoundsException, IllegalStateException {
        requireClient(client);
        requireConnection(client);
        return state.failConnection(client);
    }

    public int setWill(int client, int grade, boolean retain, int payload)
            throws IndexOutOfBoundsException, IllegalArgumentException, IllegalStateException {
        int size = takeBuffer();
        requireClient(client);
        Text topic = readTopic(size);
        requireRange(grade, 0, GREATEST_GRADE);
        requireRange(payload, 0, GREATEST_PAYLOAD);
        requireConnection(client);
        Client party = state.clients[client];
        boolean replaced = party.hasWill;
        party.hasWill = true;
        party.retainWill = retain;
        party.will.fill(topic, grade, payload);
        return replaced ? 1 : 0;
    }

    public int sessionState(int client) throws IndexOutOfBoundsException {
        requireClient(client);
        Client party = state.clients[client];
        if (!party.session.exists) {
            return 0;
        }
        if (!party.connected) {
            return 1;
        }
        return party.session.clean ? 3 : 2;
    }

    // ---- subscriptions

    public int subscribe(int client, int grade, int group, int options)
            throws IndexOutOfBoundsException, IllegalArgumentException, IllegalStateException {
        int size = takeBuffer();
        requireClient(client);
        Text filter = readFilter(size);
        requireRange(grade, 0, GREATEST_GRADE);
        requireRange(group, 0, GREATEST_GROUP);
        requireRange(options, 0, GREATEST_OPTIONS);
        if (group != 0 && (options & NOT_OWN) != 0) {
            throw new IllegalArgumentException();
        }
        requireConnection(client);
        Session session = state.clients[client].session;
        int place = session.placeOf(filter, group);
        boolean isNew = place < 0;
        if (isNew && session.subscriptionCount >= SUBSCRIPTION_LIMIT) {
            throw new IllegalStateException();
        }
        if (isNew) {
            state.addSubscription(client, filter, group);
            place = session.subscriptionCount - 1;
        }
        if (place >= 0 && place < session.subscriptions.length) {
            session.subscriptions[place].grade = grade;
            session.subscriptions[place].options = options;
        }
        boolean wanted = (options & NO_RETAINED) == 0 && (isNew || (options & RETAINED_IF_NEW) == 0);
        if (group == 0 && wanted) {
            state.giveRetained(client, filter, grade);
        }
        return session.subscriptionCount;
    }

    public int unsubscribe(int client, int group)
            throws IndexOutOfBoundsException, IllegalArgumentException, IllegalStateException {
        int size = takeBuffer();
        requireClient(client);
        Text filter = readFilter(size);
        requireRange(group, 0, GREATEST_GROUP);
        requireConnection(client);
        return state.removeSubscription(client, filter, group) ? 1 : 0;
    }

    public int subscription(int client, int index, int what)
            throws IndexOutOfBoundsException, IllegalArgumentException {
        requireClient(client);
        requireSubscription(client, index);
        Subscription row = state.clients[client].session.subscriptions[index];
        switch (what) {
            case 0:
                return row.grade;
            case 1:
                return row.group;
            case 2:
                return row.options;
            case 3:
                return row.filter.levelCount;
            default:
                throw new IllegalArgumentException();
        }
    }

    public int relation(int client, int first, int second) throws IndexOutOfBoundsException {
        requireClient(client);
        requireSubscription(client, first);
        requireSubscription(client, second);
        Subscription[] rows = state.clients[client].session.subscriptions;
        Text one = rows[first].filter;
        Text other = rows[second].filter;
        if (!one.meets(other)) {
            return 0;
        }
        return 1 + (one.covers(other) ? 2 : 0) + (other.covers(one) ? 4 : 0);
    }

    public int shareSize(int group) throws IllegalArgumentException {
        int size = takeBuffer();
        Text filter = readFilter(size);
        requireRange(group, 1, GREATEST_GROUP);
        int place = state.placeOfShare(filter, group);
        return place < 0 ? 0 : state.shares[place].memberCount;
    }

    public int shareMember(int group, int index) throws IllegalArgumentException, IndexOutOfBoundsException {
        int size = takeBuffer();
        Text filter = readFilter(size);
        requireRange(group, 1, GREATEST_GROUP);
        int place = state.placeOfShare(filter, group);
        if (place < 0 || index < 0 || index >= state.shares[place].memberCount) {
            throw new IndexOutOfBoundsException();
        }
        return state.shares[place].members[index];
    }

    // ---- messages

    public int publish(int client, int grade, int identifier, boolean retain, int payload)
            throws IndexOutOfBoundsException, IllegalArgumentException, IllegalStateException {
        int size = takeBuffer();
        requireClient(client);
        Text topic = readTopic(size);
        requireRange(grade, 0, GREATEST_GRADE);
        if (grade != 0) {
            requireRange(identifier, 1, IDENTIFIER_LIMIT);
        }
        requireRange(payload, 0, GREATEST_PAYLOAD);
        requireConnection(client);
        Client party = state.clients[client];
        int copies = 0;
        if (grade == 2 && party.session.keeps(identifier)) {
            state.totals[TOTAL_SUPPRESSED]++;
        } else {
            incoming.fill(topic, grade, payload);
            copies = state.spread(client, incoming, retain);
        }
        if (grade == 2) {
            party.session.keep(identifier);
            state.sendSign(party, RECEIVED, identifier);
        } else if (grade == 1) {
            state.sendSign(party, ACKNOWLEDGED, identifier);
        }
        return copies;
    }

    public int release(int client, int identifier)
            throws IndexOutOfBoundsException, IllegalArgumentException, IllegalStateException {
        requireClient(client);
        requireRange(identifier, 1, IDENTIFIER_LIMIT);
        requireConnection(client);
        Client party = state.clients[client];
        boolean kept = party.session.keeps(identifier);
        party.session.forget(identifier);
        state.sendSign(party, COMPLETE, identifier);
        return kept ? 1 : 0;
    }

    public int answer(int client, int kind, int identifier)
            throws IndexOutOfBoundsException, IllegalArgumentException, IllegalStateException {
        requireClient(client);
        if (kind != ACKNOWLEDGED && kind != RECEIVED && kind != COMPLETE) {
            throw new IllegalArgumentException();
        }
        requireRange(identifier, 1, IDENTIFIER_LIMIT);
        requireConnection(client);
        return state.takeAnswer(state.clients[client], kind, identifier) ? 1 : 0;
    }

    public int audience(int client) throws IndexOutOfBoundsException, IllegalArgumentException {
        int size = takeBuffer();
        requireClient(client);
        Text topic = readTopic(size);
        return state.countAudience(client, topic);
    }

    // ---- the network

    public int receive(int client) throws IndexOutOfBoundsException, IllegalStateException {
        requireClient(client);
        requireConnection(client);
        PacketQueue queue = state.clients[client].queue;
        if (queue.count == 0) {
            return -1;
        }
        present.copyFrom(queue.head());
        hasPresent = true;
        queue.dropFirst();
        return present.kind;
    }

    public int packet(int what) throws IllegalArgumentException, IllegalStateException {
        requireRange(what, 0, 5);
        if (!hasPresent) {
            throw new IllegalStateException();
        }
        switch (what) {
            case 0:
                return present.kind;
            case 1:
                return present.identifier;
            case 2:
                return present.grade;
            case 3:
                return present.payload;
            case 4:
                return present.flags;
            default:
                return present.topic.signs.length;
        }
    }

    public int topicCharacter(int index) throws IllegalStateException, IndexOutOfBoundsException {
        if (!hasPresent) {
            throw new IllegalStateException();
        }
        char[] signs = present.topic.signs;
        if (index < 0 || index >= signs.length) {
            throw new IndexOutOfBoundsException();
        }
        return signs[index];
    }

    public int lose(int client) throws IndexOutOfBoundsException, IllegalStateException {
        requireClient(client);
        requireConnection(client);
        PacketQueue queue = state.clients[client].queue;
        if (queue.count == 0) {
            return -1;
        }
        int kind = queue.head().kind;
        queue.dropFirst();
        return kind;
    }

    public int repeat(int client) throws IndexOutOfBoundsException, IllegalStateException {
        requireClient(client);
        requireConnection(client);
        PacketQueue queue = state.clients[client].queue;
        if (queue.count == 0) {
            throw new IllegalStateException();
        }
        if (queue.count < QUEUE_LIMIT) {
            Packet first = queue.head();
            queue.extend().copyFrom(first);
        }
        return queue.count;
    }

    public int length(int client, int which) throws IndexOutOfBoundsException, IllegalArgumentException {
        requireClient(client);
        Client party = state.clients[client];
        switch (which) {
            case 0:
                return party.queue.count;
            case 1:
                return party.session.flights.count;
            case 2:
                return party.session.pending.count;
            case 3:
                return party.session.keptCount;
            case 4:
                return party.session.subscriptionCount;
            default:
                throw new IllegalArgumentException();
        }
    }

    public int inFlight(int client, int index, int what)
            throws IndexOutOfBoundsException, IllegalArgumentException {
        requireClient(client);
        MessageList flights = state.clients[client].session.flights;
        if (index < 0 || index >= flights.count || index >= flights.rows.length) {
            throw new IndexOutOfBoundsException();
        }
        Message message = flights.rows[index];
        switch (what) {
            case 0:
                return message.identifier;
            case 1:
                return message.grade;
            case 2:
                return message.payload;
            case 3:
                return message.waitsFor;
            case 4:
                return message.sentAt;
            default:
                throw new IllegalArgumentException();
        }
    }

    // ---- time, retained messages, statistics

    public int advance(int ticks) throws IllegalArgumentException {
        requireRange(ticks, 1, TICK_LIMIT);
        for (int i = 0; i < ticks; i++) {
            state.tick();
        }
        return state.clock;
    }

    public int load(int client) throws IndexOutOfBoundsException {
        requireClient(client);
        return (int) (state.clients[client].load * 1000.0f);
    }

    public int retainedCount() {
        return state.retainedCount;
    }

    public int retained(int index, int what) throws IndexOutOfBoundsException, IllegalArgumentException {
        if (index < 0 || index >= state.retainedCount || index >= state.retained.length) {
            throw new IndexOutOfBoundsException();
        }
        Message message = state.retained[index];
        switch (what) {
            case 0:
                return message.grade;
            case 1:
                return message.payload;
            case 2:
                return message.topic.signs.length;
            default:
                throw new IllegalArgumentException();
        }
    }

    public int published() throws IllegalArgumentException {
        int size = takeBuffer();
        Text topic = readTopic(size);
        int place = state.tally.placeOf(topic);
        return place < 0 ? 0 : state.tally.counts[place];
    }

    public int total(int what) throws IllegalArgumentException {
        requireRange(what, 0, TOTAL_KINDS - 1);
        return state.totals[what];
    }

    // ---- snapshots

    public int save() {
        snapshot.copyFrom(state);
        hasSnapshot = true;
        return state.clock;
    }

    public int restore() throws IllegalStateException {
        if (!hasSnapshot) {
            throw new IllegalStateException();
        }
        state.copyFrom(snapshot);
        return state.clock;
    }

    // ---- what the calls ask of their arguments

    private static void requireClient(int client) {
        if (client < 0 || client >= CLIENT_LIMIT) {
            throw new IndexOutOfBoundsException();
        }
    }

    private static void requireRange(int value, int least, int greatest) {
        if (value < least || value > greatest) {
            throw new IllegalArgumentException();
        }
    }

    private void requireConnection(int client) {
        if (!state.clients[client].connected) {
            throw new IllegalStateException();
        }
    }

    private void requireSubscription(int client, int index) {
        Session session = state.clients[client].session;
        if (index < 0 || index >= session.subscriptionCount || index >= session.subscriptions.length) {
            throw new IndexOutOfBoundsException();
        }
    }

    /** Empties the buffer before anything is thrown; its signs stay where they are until the next append. */
    private int takeBuffer() {
        int size = bufferSize;
        bufferSize = 0;
        return size;
    }

    private Text readTopic(int size) {
        return readText(size, false);
    }

    private Text readFilter(int size) {
        return readText(size, true);
    }

    private Text readText(int size, boolean wildcards) {
        errorPosition = Text.findError(buffer, size, wildcards);
        if (errorPosition >= 0) {
            throw new IllegalArgumentException();
        }
        return new Text(buffer, size);
    }

    /** A topic or a filter. It never changes, so that messages and snapshots can hold the same one. */
    private static final class Text {
        final char[] signs;
        /** Each level as one number, seven bits a sign, so that levels are compared at one stroke. */
        final long[] levels;
        final int levelCount;
        final boolean open;
        /** The levels before a # at the end. */
        final int fixedCount;

        Text(char[] source, int size) {
            int kept = Math.max(0, Math.min(size, source.length));
            char[] copy = new char[kept];
            long[] codes = new long[LEVEL_LIMIT];
            int level = 0;
            for (int i = 0; i < kept; i++) {
                char sign = source[i];
                copy[i] = sign;
                if (sign == SLASH) {
                    level++;
                } else if (level < LEVEL_LIMIT) {
                    codes[level] = codes[level] << SIGN_BITS | sign;
                }
            }
            signs = copy;
            levels = codes;
            levelCount = kept == 0 ? 0 : level + 1;
            open = kept > 0 && copy[kept - 1] == ANY_REST;
            fixedCount = open ? levelCount - 1 : levelCount;
        }

        static int findError(char[] source, int size, boolean wildcards) {
            int level = 1;
            int levelSigns = 0;
            char wildcard = 0;
            for (int i = 0; i < size && i < source.length; i++) {
                char sign = source[i];
                if (sign == SLASH) {
                    if (levelSigns == 0 || wildcard == ANY_REST || level == LEVEL_LIMIT) {
                        return i;
                    }
                    level++;
                    levelSigns = 0;
                    wildcard = 0;
                } else if (sign == ANY_LEVEL || sign == ANY_REST) {
                    if (!wildcards || levelSigns != 0) {
                        return i;
                    }
                    wildcard = sign;
                    levelSigns = 1;
                } else {
                    if (!isPlain(sign) || wildcard != 0 || levelSigns == LEVEL_SIGN_LIMIT) {
                        return i;
                    }
                    levelSigns++;
                }
            }
            return levelSigns == 0 ? size : -1;
        }

        static boolean isPlain(char sign) {
            return sign >= 'a' && sign <= 'z' || sign >= '0' && sign <= '9';
        }

        boolean sameAs(Text other) {
            for (int i = 0; i < LEVEL_LIMIT; i++) {
                if (levels[i] != other.levels[i]) {
                    return false;
                }
            }
            return true;
        }

        /** Negative if this text comes first, 0 if both are the same; the slash is the least sign as it is. */
        int order(Text other) {
            int common = Math.min(signs.length, other.signs.length);
            for (int i = 0; i < common; i++) {
                if (signs[i] != other.signs[i]) {
                    return signs[i] - other.signs[i];
                }
            }
            return signs.length - other.signs.length;
        }

        boolean matches(Text topic) {
            return coversWith(topic, topic.levelCount);
        }

        /** Whether both match a topic. No topic has more than four levels, so each number of levels is tried. */
        boolean meets(Text other) {
            for (int count = 1; count <= LEVEL_LIMIT; count++) {
                if (fits(count) && other.fits(count) && meetsWith(other, count)) {
                    return true;
                }
            }
            return false;
        }

        /** Whether this filter matches whatever the other one matches. */
        boolean covers(Text other) {
            for (int count = 1; count <= LEVEL_LIMIT; count++) {
                if (other.fits(count) && !coversWith(other, count)) {
                    return false;
                }
            }
            return true;
        }

        private boolean fits(int count) {
            return open ? count >= fixedCount : count == fixedCount;
        }

        private long levelAt(int index) {
            return index >= 0 && index < fixedCount && index < LEVEL_LIMIT ? levels[index] : ANY_LEVEL;
        }

        private boolean meetsWith(Text other, int count) {
            for (int i = 0; i < count; i++) {
                long one = levelAt(i);
                long two = other.levelAt(i);
                if (one != two && one != ANY_LEVEL && two != ANY_LEVEL) {
                    return false;
                }
            }
            return true;
        }

        private boolean coversWith(Text other, int count) {
            if (!fits(count)) {
                return false;
            }
            for (int i = 0; i < count; i++) {
                long level = levelAt(i);
                if (level != ANY_LEVEL && level != other.levelAt(i)) {
                    return false;
                }
            }
            return true;
        }
    }

    /** A row of a network queue. Packets without a topic hold the blank text. */
    private static final class Packet {
        int kind;
        int identifier;
        int grade;
        int payload;
        int flags;
        Text topic;

        Packet(Text blank) {
            topic = blank;
        }

        void copyFrom(Packet other) {
            kind = other.kind;
            identifier = other.identifier;
            grade = other.grade;
            payload = other.payload;
            flags = other.flags;
            topic = other.topic;
        }
    }

    /** The network queue of a client, a ring of rows. */
    private static final class PacketQueue {
        final Packet[] rows;
        int first;
        int count;

        PacketQueue(Text blank) {
            rows = new Packet[QUEUE_LIMIT];
            for (int i = 0; i < QUEUE_LIMIT; i++) {
                rows[i] = new Packet(blank);
            }
        }

        Packet head() {
            return rows[first];
        }

        /** Adds a row at the end, to be filled by the caller, who has seen that there is room. */
        Packet extend() {
            if (count < QUEUE_LIMIT) {
                count++;
            }
            return rows[(first + count - 1) % QUEUE_LIMIT];
        }

        void dropFirst() {
            if (count > 0) {
                first = (first + 1) % QUEUE_LIMIT;
                count--;
            }
        }

        void clear() {
            first = 0;
            count = 0;
        }

        void copyFrom(PacketQueue other) {
            first = 0;
            count = other.count;
            for (int i = 0; i < count && i < QUEUE_LIMIT; i++) {
                rows[i].copyFrom(other.rows[(other.first + i) % QUEUE_LIMIT]);
            }
        }
    }

    /** A message that is published, retained, pending or in flight; the last three parts serve it in flight. */
    private static final class Message {
        Text topic;
        int grade;
        int payload;
        int flags;
        int identifier;
        int waitsFor;
        int sentAt;

        Message(Text blank) {
            topic = blank;
        }

        void fill(Text newTopic, int newGrade, int newPayload) {
            topic = newTopic;
            grade = newGrade;
            payload = newPayload;
            flags = 0;
            identifier = 0;
            waitsFor = 0;
            sentAt = 0;
        }

        void copyFrom(Message other) {
            topic = other.topic;
            grade = other.grade;
            payload = other.payload;
            flags = other.flags;
            identifier = other.identifier;
            waitsFor = other.waitsFor;
            sentAt = other.sentAt;
        }
    }

    /** Messages in order, in rows that are used again. */
    private static final class MessageList {
        final Message[] rows;
        int count;

        MessageList(int limit, Text blank) {
            rows = new Message[Math.max(1, limit)];
            for (int i = 0; i < rows.length; i++) {
                rows[i] = new Message(blank);
            }
        }

        void add(Message message) {
            if (count >= 0 && count < rows.length) {
                rows[count].copyFrom(message);
                count++;
            }
        }

        void removeAt(int index) {
            if (index < 0 || index >= count || count > rows.length) {
                return;
            }
            Message free = rows[index];
            for (int i = index; i + 1 < count; i++) {
                rows[i] = rows[i + 1];
            }
            rows[count - 1] = free;
            count--;
        }

        int placeOf(int identifier) {
            for (int i = 0; i < count && i < rows.length; i++) {
                if (rows[i].identifier == identifier) {
                    return i;
                }
            }
            return -1;
        }

        void copyFrom(MessageList other) {
            count = other.count;
            for (int i = 0; i < count && i < rows.length && i < other.rows.length; i++) {
                rows[i].copyFrom(other.rows[i]);
            }
        }
    }

    private static final class Subscription {
        Text filter;
        int group;
        int grade;
        int options;

        Subscription(Text blank) {
            filter = blank;
        }

        void copyFrom(Subscription other) {
            filter = other.filter;
            group = other.group;
            grade = other.grade;
            options = other.options;
        }
    }

    /** The session of a client, empty while it does not exist. */
    private static final class Session {
        boolean exists;
        boolean clean;
        int offlineSince;
        int nextIdentifier;
        final boolean[] kept;
        int keptCount;
        final Subscription[] subscriptions;
        int subscriptionCount;
        final MessageList flights;
        final MessageList pending;

        Session(Text blank) {
            kept = new boolean[IDENTIFIER_LIMIT + 1];
            subscriptions = new Subscription[SUBSCRIPTION_LIMIT];
            for (int i = 0; i < SUBSCRIPTION_LIMIT; i++) {
                subscriptions[i] = new Subscription(blank);
            }
            flights = new MessageList(FLIGHT_LIMIT, blank);
            pending = new MessageList(PENDING_LIMIT, blank);
        }

        void begin(boolean isClean) {
            clear();
            exists = true;
            clean = isClean;
        }

        void clear() {
            exists = false;
            clean = false;
            offlineSince = 0;
            nextIdentifier = 1;
            for (int i = 0; i < kept.length; i++) {
                kept[i] = false;
            }
            keptCount = 0;
            subscriptionCount = 0;
            flights.count = 0;
            pending.count = 0;
        }

        boolean keeps(int identifier) {
            return identifier >= 0 && identifier < kept.length && kept[identifier];
        }

        void keep(int identifier) {
            if (identifier >= 0 && identifier < kept.length && !kept[identifier]) {
                kept[identifier] = true;
                keptCount++;
            }
        }

        void forget(int identifier) {
            if (keeps(identifier)) {
                kept[identifier] = false;
                keptCount--;
            }
        }

        int placeOf(Text filter, int group) {
            for (int i = 0; i < subscriptionCount && i < SUBSCRIPTION_LIMIT; i++) {
                if (subscriptions[i].group == group && subscriptions[i].filter.sameAs(filter)) {
                    return i;
                }
            }
            return -1;
        }

        /** The grade of a subscription, 0 if there is none. */
        int gradeOf(Text filter, int group) {
            int place = placeOf(filter, group);
            return place < 0 ? 0 : subscriptions[place].grade;
        }

        void addSubscription(Text filter, int group) {
            if (subscriptionCount >= 0 && subscriptionCount < SUBSCRIPTION_LIMIT) {
                Subscription row = subscriptions[subscriptionCount];
                row.filter = filter;
                row.group = group;
                row.grade = 0;
                row.options = 0;
                subscriptionCount++;
            }
        }

        void removeSubscriptionAt(int index) {
            if (index < 0 || index >= subscriptionCount || subscriptionCount > SUBSCRIPTION_LIMIT) {
                return;
            }
            Subscription free = subscriptions[index];
            for (int i = index; i + 1 < subscriptionCount; i++) {
                subscriptions[i] = subscriptions[i + 1];
            }
            subscriptions[subscriptionCount - 1] = free;
            subscriptionCount--;
        }

        /** The greatest grade of the subscriptions without a group that take a message, -1 without any. */
        int greatestGrade(Text topic, boolean own) {
            int greatest = -1;
            for (int i = 0; i < subscriptionCount && i < SUBSCRIPTION_LIMIT; i++) {
                Subscription row = subscriptions[i];
                boolean barred = own && (row.options & NOT_OWN) != 0;
                if (row.group == 0 && !barred && row.filter.matches(topic)) {
                    greatest = Math.max(greatest, row.grade);
                }
            }
            return greatest;
        }

        void stepIdentifier() {
            for (int tries = 0; tries < IDENTIFIER_LIMIT; tries++) {
                nextIdentifier = nextIdentifier >= IDENTIFIER_LIMIT ? 1 : nextIdentifier + 1;
                if (flights.placeOf(nextIdentifier) < 0) {
                    return;
                }
            }
        }

        void copyFrom(Session other) {
            exists = other.exists;
            clean = other.clean;
            offlineSince = other.offlineSince;
            nextIdentifier = other.nextIdentifier;
            for (int i = 0; i < kept.length; i++) {
                kept[i] = other.kept[i];
            }
            keptCount = other.keptCount;
            subscriptionCount = other.subscriptionCount;
            for (int i = 0; i < subscriptionCount && i < SUBSCRIPTION_LIMIT; i++) {
                subscriptions[i].copyFrom(other.subscriptions[i]);
            }
            flights.copyFrom(other.flights);
            pending.copyFrom(other.pending);
        }
    }

    private static final class Client {
        boolean connected;
        boolean hasWill;
        boolean retainWill;
        final Message will;
        final PacketQueue queue;
        final Session session;
        float load;
        /** Packets sent since the load was computed before. */
        int sentCount;

        Client(Text blank) {
            will = new Message(blank);
            queue = new PacketQueue(blank);
            session = new Session(blank);
        }

        void copyFrom(Client other) {
            connected = other.connected;
            hasWill = other.hasWill;
            retainWill = other.retainWill;
            will.copyFrom(other.will);
            queue.copyFrom(other.queue);
            session.copyFrom(other.session);
            load = other.load;
            sentCount = other.sentCount;
        }
    }

    private static final class Share {
        Text filter;
        int group;
        final int[] members;
        int memberCount;

        Share(Text blank) {
            filter = blank;
            members = new int[CLIENT_LIMIT];
        }

        void addMember(int client) {
            if (memberCount >= 0 && memberCount < CLIENT_LIMIT) {
                members[memberCount] = client;
                memberCount++;
            }
        }

        void removeMember(int client) {
            int left = 0;
            for (int i = 0; i < memberCount && i < CLIENT_LIMIT; i++) {
                if (members[i] != client) {
                    members[left] = members[i];
                    left++;
                }
            }
            memberCount = left;
        }

        void copyFrom(Share other) {
            filter = other.filter;
            group = other.group;
            for (int i = 0; i < CLIENT_LIMIT; i++) {
                members[i] = other.members[i];
            }
            memberCount = other.memberCount;
        }
    }

    /** How many messages were published, a count for each topic. */
    private static final class Tally {
        final Text[] topics;
        final int[] counts;
        int topicCount;

        Tally(Text blank) {
            topics = new Text[TOPIC_LIMIT];
            counts = new int[TOPIC_LIMIT];
            for (int i = 0; i < TOPIC_LIMIT; i++) {
                topics[i] = blank;
            }
        }

        int placeOf(Text topic) {
            for (int i = 0; i < topicCount && i < TOPIC_LIMIT; i++) {
                if (topics[i].sameAs(topic)) {
                    return i;
                }
            }
            return -1;
        }

        void count(Text topic) {
            int place = placeOf(topic);
            if (place < 0 && topicCount >= 0 && topicCount < TOPIC_LIMIT) {
                place = topicCount;
                topics[place] = topic;
                counts[place] = 0;
                topicCount++;
            }
            if (place >= 0) {
                counts[place]++;
            }
        }

        void copyFrom(Tally other) {
            topicCount = other.topicCount;
            for (int i = 0; i < topicCount && i < TOPIC_LIMIT; i++) {
                topics[i] = other.topics[i];
                counts[i] = other.counts[i];
            }
        }
    }

    /** Everything that a snapshot holds. */
    private static final class State {
        final Text blank;
        final Client[] clients;
        final Share[] shares;
        int shareCount;
        /** In the ascending order of their topics. */
        final Message[] retained;
        int retainedCount;
        final int[] options;
        final int[] totals;
        final Tally tally;
        int clock;
        /** The copy that is being given; it means nothing between calls. */
        final Message draft;

        State(Text blankText) {
            blank = blankText;
            clients = new Client[CLIENT_LIMIT];
            for (int i = 0; i < CLIENT_LIMIT; i++) {
                clients[i] = new Client(blankText);
            }
            shares = new Share[SHARE_LIMIT];
            for (int i = 0; i < SHARE_LIMIT; i++) {
                shares[i] = new Share(blankText);
            }
            retained = new Message[RETAINED_LIMIT];
            for (int i = 0; i < RETAINED_LIMIT; i++) {
                retained[i] = new Message(blankText);
            }
            options = new int[OPTION_FIRST.length];
            for (int i = 0; i < OPTION_FIRST.length; i++) {
                options[i] = OPTION_FIRST[i];
            }
            totals = new int[TOTAL_KINDS];
            tally = new Tally(blankText);
            draft = new Message(blankText);
        }

        void copyFrom(State other) {
            for (int i = 0; i < CLIENT_LIMIT; i++) {
                clients[i].copyFrom(other.clients[i]);
            }
            shareCount = other.shareCount;
            for (int i = 0; i < shareCount && i < SHARE_LIMIT; i++) {
                shares[i].copyFrom(other.shares[i]);
            }
            retainedCount = other.retainedCount;
            for (int i = 0; i < retainedCount && i < RETAINED_LIMIT; i++) {
                retained[i].copyFrom(other.retained[i]);
            }
            for (int i = 0; i < options.length; i++) {
                options[i] = other.options[i];
            }
            for (int i = 0; i < TOTAL_KINDS; i++) {
                totals[i] = other.totals[i];
            }
            tally.copyFrom(other.tally);
            clock = other.clock;
        }

        // -- connections and sessions

        void endConnection(int client) {
            Client party = clients[client];
            party.connected = false;
            party.queue.clear();
            if (party.session.clean) {
                removeSession(client);
            } else {
                party.session.offlineSince = clock;
            }
        }

        int failConnection(int client) {
            endConnection(client);
            Client party = clients[client];
            if (!party.hasWill) {
                return 0;
            }
            party.hasWill = false;
            totals[TOTAL_WILLS]++;
            spread(client, party.will, party.retainWill);
            return 1;
        }

        void removeSession(int client) {
            clients[client].session.clear();
            for (int i = Math.min(shareCount, SHARE_LIMIT) - 1; i >= 0; i--) {
                leaveShare(i, client);
            }
        }

        void resume(Client party) {
            MessageList flights = party.session.flights;
            for (int i = 0; i < flights.count && i < flights.rows.length; i++) {
                resend(party, flights.rows[i]);
            }
            startPending(party);
        }

        // -- subscriptions and shares

        void addSubscription(int client, Text filter, int group) {
            clients[client].session.addSubscription(filter, group);
            if (group == 0) {
                return;
            }
            int place = placeOfShare(filter, group);
            if (place < 0 && shareCount >= 0 && shareCount < SHARE_LIMIT) {
                place = shareCount;
                shares[place].filter = filter;
                shares[place].group = group;
                shares[place].memberCount = 0;
                shareCount++;
            }
            if (place >= 0) {
                shares[place].addMember(client);
            }
        }

        boolean removeSubscription(int client, Text filter, int group) {
            Session session = clients[client].session;
            int place = session.placeOf(filter, group);
            if (place < 0) {
                return false;
            }
            session.removeSubscriptionAt(place);
            if (group != 0) {
                leaveShare(placeOfShare(filter, group), client);
            }
            return true;
        }

        int placeOfShare(Text filter, int group) {
            for (int i = 0; i < shareCount && i < SHARE_LIMIT; i++) {
                if (shares[i].group == group && shares[i].filter.sameAs(filter)) {
                    return i;
                }
            }
            return -1;
        }

        private void leaveShare(int place, int client) {
            if (place < 0 || place >= shareCount || shareCount > SHARE_LIMIT) {
                return;
            }
            Share share = shares[place];
            share.removeMember(client);
            if (share.memberCount > 0) {
                return;
            }
            for (int i = place; i + 1 < shareCount; i++) {
                shares[i] = shares[i + 1];
            }
            shares[shareCount - 1] = share;
            shareCount--;
        }

        /** Chooses the first member that is connected, or else the first one, and makes it the last one. */
        private int takeMember(Share share) {
            int chosen = share.members[0];
            for (int i = 0; i < share.memberCount && i < CLIENT_LIMIT; i++) {
                if (clients[share.members[i]].connected) {
                    chosen = share.members[i];
                    break;
                }
            }
            share.removeMember(chosen);
            share.addMember(chosen);
            return chosen;
        }

        // -- publication

        /** Publishes a message and answers how many copies were given. */
        int spread(int publisher, Message message, boolean retain) {
            totals[TOTAL_PUBLISHED]++;
            tally.count(message.topic);
            if (retain) {
                keepRetained(message);
            }
            int copies = 0;
            for (int i = 0; i < CLIENT_LIMIT; i++) {
                int greatest = clients[i].session.greatestGrade(message.topic, i == publisher);
                if (greatest >= 0) {
                    give(clients[i], message, Math.min(message.grade, greatest), 0);
                    copies++;
                }
            }
            for (int i = 0; i < shareCount && i < SHARE_LIMIT; i++) {
                Share share = shares[i];
                if (share.filter.matches(message.topic)) {
                    Client member = clients[takeMember(share)];
                    int greatest = member.session.gradeOf(share.filter, share.group);
                    give(member, message, Math.min(message.grade, greatest), 0);
                    copies++;
                }
            }
            return copies;
        }

        int countAudience(int publisher, Text topic) {
            int copies = 0;
            for (int i = 0; i < CLIENT_LIMIT; i++) {
                if (clients[i].session.greatestGrade(topic, i == publisher) >= 0) {
                    copies++;
                }
            }
            for (int i = 0; i < shareCount && i < SHARE_LIMIT; i++) {
                if (shares[i].filter.matches(topic)) {
                    copies++;
                }
            }
            return copies;
        }

        private void keepRetained(Message message) {
            int place = 0;
            while (place < retainedCount && place < RETAINED_LIMIT && retained[place].topic.order(message.topic) < 0) {
                place++;
            }
            boolean known = place < retainedCount && place < RETAINED_LIMIT
                    && retained[place].topic.sameAs(message.topic);
            if (message.payload == 0) {
                if (known) {
                    dropRetained(place);
                }
                return;
            }
            if (!known) {
                if (retainedCount >= RETAINED_LIMIT) {
                    return;
                }
                openRetained(place);
            }
            retained[place].copyFrom(message);
        }

        private void dropRetained(int place) {
            Message free = retained[place];
            for (int i = place; i + 1 < retainedCount; i++) {
                retained[i] = retained[i + 1];
            }
            retained[retainedCount - 1] = free;
            retainedCount--;
        }

        private void openRetained(int place) {
            Message free = retained[retainedCount];
            for (int i = retainedCount; i > place; i--) {
                retained[i] = retained[i - 1];
            }
            retained[place] = free;
            retainedCount++;
        }

        void giveRetained(int client, Text filter, int grade) {
            for (int i = 0; i < retainedCount && i < RETAINED_LIMIT; i++) {
                Message message = retained[i];
                if (filter.matches(message.topic)) {
                    give(clients[client], message, Math.min(message.grade, grade), RETAINED_FLAG);
                }
            }
        }

        // -- giving a message to a session

        private void give(Client to, Message message, int grade, int flags) {
            totals[TOTAL_GIVEN]++;
            draft.fill(message.topic, grade, message.payload);
            draft.flags = flags;
            if (grade == 0) {
                if (to.connected) {
                    sendMessage(to, draft, 0);
                } else {
                    totals[TOTAL_DROPPED]++;
                }
            } else if (to.session.pending.count == 0 && mayStart(to)) {
                startFlight(to, draft);
            } else {
                hold(to.session.pending, draft);
            }
        }

        private void hold(MessageList pending, Message message) {
            if (pending.count >= PENDING_LIMIT) {
                totals[TOTAL_DROPPED]++;
                if (options[OVERFLOW] == 0) {
                    return;
                }
                pending.removeAt(0);
            }
            pending.add(message);
        }

        private boolean mayStart(Client party) {
            return party.connected && party.session.flights.count < options[WINDOW];
        }

        private void startFlight(Client party, Message message) {
            Session session = party.session;
            message.identifier = session.nextIdentifier;
            message.waitsFor = message.grade == 1 ? ACKNOWLEDGED : RECEIVED;
            sendMessage(party, message, 0);
            session.flights.add(message);
            session.stepIdentifier();
        }

        private void startPending(Client party) {
            MessageList pending = party.session.pending;
            for (int i = 0; i < PENDING_LIMIT && pending.count > 0 && mayStart(party); i++) {
                startFlight(party, pending.rows[0]);
                pending.removeAt(0);
            }
        }

        boolean takeAnswer(Client party, int kind, int identifier) {
            MessageList flights = party.session.flights;
            int place = flights.placeOf(identifier);
            if (place < 0) {
                return false;
            }
            Message message = flights.rows[place];
            if (kind == RECEIVED && message.grade == 2) {
                message.waitsFor = COMPLETE;
                sendRelease(party, message);
                return true;
            }
            if (message.waitsFor != kind) {
                return false;
            }
            totals[TOTAL_ENDED]++;
            flights.removeAt(place);
            startPending(party);
            return true;
        }

        // -- sending

        private void resend(Client party, Message message) {
            totals[TOTAL_RESENT]++;
            if (message.waitsFor == COMPLETE) {
                sendRelease(party, message);
            } else {
                sendMessage(party, message, DUPLICATE_FLAG);
            }
        }

        private void sendRelease(Client party, Message message) {
            message.sentAt = clock;
            sendSign(party, RELEASE, message.identifier);
        }

        private void sendMessage(Client party, Message message, int moreFlags) {
            message.sentAt = clock;
            if (countSent(party)) {
                Packet row = party.queue.extend();
                row.kind = MESSAGE;
                row.identifier = message.identifier;
                row.grade = message.grade;
                row.payload = message.payload;
                row.flags = message.flags + moreFlags;
                row.topic = message.topic;
            }
        }

        /** Sends a packet that is no message. */
        void sendSign(Client party, int kind, int identifier) {
            if (countSent(party)) {
                Packet row = party.queue.extend();
                row.kind = kind;
                row.identifier = identifier;
                row.grade = 0;
                row.payload = 0;
                row.flags = 0;
                row.topic = blank;
            }
        }

        /** Counts a packet as sent, and answers whether the queue has room for it. */
        private boolean countSent(Client party) {
            party.sentCount++;
            if (party.queue.count >= QUEUE_LIMIT) {
                totals[TOTAL_LOST]++;
                return false;
            }
            return true;
        }

        // -- time

        void tick() {
            clock++;
            for (int i = 0; i < CLIENT_LIMIT; i++) {
                if (clients[i].connected && options[TIMEOUT] != 0) {
                    resendLate(clients[i]);
                }
            }
            for (int i = 0; i < CLIENT_LIMIT; i++) {
                Client party = clients[i];
                party.load = party.load * 0.75f + party.sentCount * 0.25f;
                party.sentCount = 0;
            }
            for (int i = 0; i < CLIENT_LIMIT; i++) {
                expire(i);
            }
        }

        private void resendLate(Client party) {
            MessageList flights = party.session.flights;
            for (int i = 0; i < flights.count && i < flights.rows.length; i++) {
                if (clock - flights.rows[i].sentAt >= options[TIMEOUT]) {
                    resend(party, flights.rows[i]);
                }
            }
        }

        private void expire(int client) {
            Client party = clients[client];
            boolean offline = party.session.exists && !party.connected;
            if (offline && clock - party.session.offlineSince >= options[EXPIRY]) {
                removeSession(client);
                totals[TOTAL_EXPIRED]++;
            }
        }
    }
}
