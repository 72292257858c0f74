import java.util.ArrayList;
import java.util.HashMap;
import java.util.List;
import java.util.Map;
import java.util.TreeMap;
import java.util.TreeSet;
import java.util.regex.Pattern;

/** The document once more, in the plainest words of the library, to compare the class with. */
final class Model {
    static final Pattern TOPIC = Pattern.compile("[a-z0-9]{1,6}(/[a-z0-9]{1,6}){0,3}");
    static final Pattern FILTER =
            Pattern.compile("#|([a-z0-9]{1,6}|\\+)(/([a-z0-9]{1,6}|\\+)){0,3}|(([a-z0-9]{1,6}|\\+)/){1,3}#");

    record Packet(int kind, int identifier, int grade, int payload, int flags, String topic) {
    }

    record Message(String topic, int payload, int grade, boolean retained) {
    }

    record Sub(String filter, int group, int grade, int options) {
    }

    static final class Flight {
        Message message;
        int identifier;
        int waits;
        int sent;
    }

    static final class Session {
        boolean clean;
        int since;
        int next = 1;
        List<Sub> subs = new ArrayList<>();
        List<Flight> flights = new ArrayList<>();
        List<Message> pending = new ArrayList<>();
        TreeSet<Integer> kept = new TreeSet<>();
    }

    static final class World {
        boolean[] connected = new boolean[6];
        Session[] sessions = new Session[6];
        Message[] wills = new Message[6];
        List<List<Packet>> queues = new ArrayList<>();
        float[] loads = new float[6];
        int[] sent = new int[6];
        /** Shares by "group filter", in the order in which they came into being. */
        List<String> shareOrder = new ArrayList<>();
        Map<String, List<Integer>> shares = new HashMap<>();
        TreeMap<String, Message> retained = new TreeMap<>();
        Map<String, Integer> published = new HashMap<>();
        int[] options = {3, 0, 20, 0};
        int[] totals = new int[10];
        int clock;

        World() {
            for (int i = 0; i < 6; i++) {
                queues.add(new ArrayList<>());
            }
        }

        World copy() {
            World w = new World();
            w.connected = connected.clone();
            w.wills = wills.clone();
            w.loads = loads.clone();
            w.sent = sent.clone();
            w.options = options.clone();
            w.totals = totals.clone();
            w.clock = clock;
            w.shareOrder.addAll(shareOrder);
            w.retained.putAll(retained);
            w.published.putAll(published);
            for (Map.Entry<String, List<Integer>> e : shares.entrySet()) {
                w.shares.put(e.getKey(), new ArrayList<>(e.getValue()));
            }
            for (int i = 0; i < 6; i++) {
                w.queues.get(i).addAll(queues.get(i));
                w.sessions[i] = copy(sessions[i]);
            }
            return w;
        }

        static Session copy(Session s) {
            if (s == null) {
                return null;
            }
            Session t = new Session();
            t.clean = s.clean;
            t.since = s.since;
            t.next = s.next;
            t.subs.addAll(s.subs);
            t.pending.addAll(s.pending);
            t.kept.addAll(s.kept);
            for (Flight f : s.flights) {
                Flight g = new Flight();
                g.message = f.message;
                g.identifier = f.identifier;
                g.waits = f.waits;
                g.sent = f.sent;
                t.flights.add(g);
            }
            return t;
        }
    }

    World w = new World();
    World saved;
    String buffer = "";
    int error = -1;
    Packet present;

    // ---- texts

    private static boolean goesOn(String start, boolean filter) {
        if (start.isEmpty()) {
            return true;
        }
        Pattern whole = filter ? FILTER : TOPIC;
        return whole.matcher(start).matches() || whole.matcher(start + "a").matches();
    }

    private String take() {
        String text = buffer;
        buffer = "";
        return text;
    }

    private void read(String text, boolean filter) {
        error = -1;
        if ((filter ? FILTER : TOPIC).matcher(text).matches()) {
            return;
        }
        error = text.length();
        for (int i = text.length(); i >= 1; i--) {
            if (!goesOn(text.substring(0, i), filter)) {
                error = i - 1;
            }
        }
        throw new IllegalArgumentException();
    }

    static boolean matches(String filter, String topic) {
        String[] f = filter.split("/");
        String[] t = topic.split("/");
        boolean rest = f[f.length - 1].equals("#");
        int fixed = rest ? f.length - 1 : f.length;
        if (rest ? t.length < fixed : t.length != fixed) {
            return false;
        }
        for (int i = 0; i < fixed; i++) {
            if (!f[i].equals("+") && !f[i].equals(t[i])) {
                return false;
            }
        }
        return true;
    }

    /** All topics of up to four levels made of the levels of both filters and two that neither has. */
    static List<String> samples(String first, String second) {
        TreeSet<String> levels = new TreeSet<>(List.of("zzzzz8", "zzzzz9"));
        for (String level : (first + "/" + second).split("/")) {
            if (!level.equals("+") && !level.equals("#")) {
                levels.add(level);
            }
        }
        List<String> all = new ArrayList<>();
        List<String> row = new ArrayList<>(List.of(""));
        for (int i = 0; i < 4; i++) {
            List<String> longer = new ArrayList<>();
            for (String start : row) {
                for (String level : levels) {
                    longer.add(start.isEmpty() ? level : start + "/" + level);
                }
            }
            all.addAll(longer);
            row = longer;
        }
        return all;
    }

    // ---- what happens

    private static void client(int client) {
        if (client < 0 || client > 5) {
            throw new IndexOutOfBoundsException();
        }
    }

    private static void argument(boolean good) {
        if (!good) {
            throw new IllegalArgumentException();
        }
    }

    private static void bounds(boolean good) {
        if (!good) {
            throw new IndexOutOfBoundsException();
        }
    }

    private static void state(boolean good) {
        if (!good) {
            throw new IllegalStateException();
        }
    }

    private void send(int client, Packet packet) {
        w.sent[client]++;
        if (w.queues.get(client).size() == 30) {
            w.totals[8]++;
        } else {
            w.queues.get(client).add(packet);
        }
    }

    private static Packet packetOf(Message m, int identifier, int flags) {
        return new Packet(0, identifier, m.grade, m.payload, flags + (m.retained ? 2 : 0), m.topic);
    }

    private void fly(int client, Message m) {
        Session s = w.sessions[client];
        Flight f = new Flight();
        f.message = m;
        f.identifier = s.next;
        f.waits = m.grade == 1 ? 1 : 2;
        f.sent = w.clock;
        s.flights.add(f);
        send(client, packetOf(m, f.identifier, 0));
        boolean used;
        do {
            s.next = s.next % 50 + 1;
            used = false;
            for (Flight g : s.flights) {
                used |= g.identifier == s.next;
            }
        } while (used);
    }

    private void unpend(int client) {
        Session s = w.sessions[client];
        while (w.connected[client] && !s.pending.isEmpty() && s.flights.size() < w.options[0]) {
            fly(client, s.pending.remove(0));
        }
    }

    private void give(int client, Message m) {
        Session s = w.sessions[client];
        w.totals[1]++;
        if (m.grade == 0) {
            if (w.connected[client]) {
                send(client, packetOf(m, 0, 0));
            } else {
                w.totals[2]++;
            }
            return;
        }
        if (w.connected[client] && s.flights.size() < w.options[0] && s.pending.isEmpty()) {
            fly(client, m);
            return;
        }
        if (s.pending.size() == 8) {
            w.totals[2]++;
            if (w.options[3] == 0) {
                return;
            }
            s.pending.remove(0);
        }
        s.pending.add(m);
    }

    private int greatest(int client, int publisher, String topic) {
        int greatest = -1;
        if (w.sessions[client] != null) {
            for (Sub sub : w.sessions[client].subs) {
                boolean own = client == publisher && sub.options % 2 == 1;
                if (sub.group == 0 && !own && matches(sub.filter, topic)) {
                    greatest = Math.max(greatest, sub.grade);
                }
            }
        }
        return greatest;
    }

    private int spread(int publisher, String topic, int grade, boolean retain, int payload) {
        w.totals[0]++;
        w.published.merge(topic, 1, Integer::sum);
        if (retain && payload == 0) {
            w.retained.remove(topic);
        } else if (retain && (w.retained.containsKey(topic) || w.retained.size() < 8)) {
            w.retained.put(topic, new Message(topic, payload, grade, true));
        }
        int copies = 0;
        for (int i = 0; i < 6; i++) {
            int most = greatest(i, publisher, topic);
            if (most >= 0) {
                give(i, new Message(topic, payload, Math.min(grade, most), false));
                copies++;
            }
        }
        for (String share : w.shareOrder) {
            String filter = share.substring(2);
            if (matches(filter, topic)) {
                List<Integer> members = w.shares.get(share);
                Integer chosen = members.get(0);
                for (int i = members.size() - 1; i >= 0; i--) {
                    if (w.connected[members.get(i)]) {
                        chosen = members.get(i);
                    }
                }
                members.remove(chosen);
                members.add(chosen);
                int most = 0;
                for (Sub sub : w.sessions[chosen].subs) {
                    if ((sub.group + " " + sub.filter).equals(share)) {
                        most = sub.grade;
                    }
                }
                give(chosen, new Message(topic, payload, Math.min(grade, most), false));
                copies++;
            }
        }
        return copies;
    }

    private void leave(int client, String share) {
        List<Integer> members = w.shares.get(share);
        members.remove(Integer.valueOf(client));
        if (members.isEmpty()) {
            w.shares.remove(share);
            w.shareOrder.remove(share);
        }
    }

    private void remove(int client) {
        for (Sub sub : w.sessions[client].subs) {
            if (sub.group != 0) {
                leave(client, sub.group + " " + sub.filter);
            }
        }
        w.sessions[client] = null;
    }

    private void end(int client) {
        w.connected[client] = false;
        w.queues.get(client).clear();
        if (w.sessions[client].clean) {
            remove(client);
        } else {
            w.sessions[client].since = w.clock;
        }
    }

    private void again(int client, Flight f) {
        w.totals[4]++;
        f.sent = w.clock;
        if (f.waits == 4) {
            send(client, new Packet(3, f.identifier, 0, 0, 0, ""));
        } else {
            send(client, packetOf(f.message, f.identifier, 1));
        }
    }

    // ---- the face

    int append(int packed) {
        StringBuilder more = new StringBuilder();
        for (int shift = 24; shift >= 0; shift -= 8) {
            int sign = packed >> shift & 255;
            argument(sign == 0 || sign >= 33 && sign <= 126);
            if (sign != 0) {
                more.append((char) sign);
            }
        }
        state(buffer.length() + more.length() <= 30);
        buffer += more;
        return buffer.length();
    }

    int errorPosition() {
        return error;
    }

    int setOption(int option, int value) {
        bounds(option >= 0 && option <= 3);
        int[][] range = {{1, 5}, {0, 20}, {1, 100}, {0, 1}};
        argument(value >= range[option][0] && value <= range[option][1]);
        int before = w.options[option];
        w.options[option] = value;
        return before;
    }

    int connect(int client, boolean clean) {
        client(client);
        if (w.connected[client]) {
            w.totals[5]++;
            breakConnection(client);
        }
        if (clean && w.sessions[client] != null) {
            remove(client);
        }
        boolean resumed = w.sessions[client] != null;
        w.connected[client] = true;
        if (!resumed) {
            w.sessions[client] = new Session();
            w.sessions[client].clean = clean;
        } else {
            for (Flight f : w.sessions[client].flights) {
                again(client, f);
            }
            unpend(client);
        }
        return resumed ? 1 : 0;
    }

    int disconnect(int client) {
        client(client);
        state(w.connected[client]);
        w.wills[client] = null;
        end(client);
        return w.sessions[client] == null ? 0 : 1;
    }

    int breakConnection(int client) {
        client(client);
        state(w.connected[client]);
        end(client);
        Message will = w.wills[client];
        w.wills[client] = null;
        if (will == null) {
            return 0;
        }
        w.totals[6]++;
        spread(client, will.topic, will.grade, will.retained, will.payload);
        return 1;
    }

    int setWill(int client, int grade, boolean retain, int payload) {
        String text = take();
        client(client);
        read(text, false);
        argument(grade >= 0 && grade <= 2 && payload >= 0 && payload <= 9999);
        state(w.connected[client]);
        boolean had = w.wills[client] != null;
        w.wills[client] = new Message(text, payload, grade, retain);
        return had ? 1 : 0;
    }

    int sessionState(int client) {
        client(client);
        Session s = w.sessions[client];
        return s == null ? 0 : !w.connected[client] ? 1 : s.clean ? 3 : 2;
    }

    int subscribe(int client, int grade, int group, int options) {
        String text = take();
        client(client);
        read(text, true);
        argument(grade >= 0 && grade <= 2 && group >= 0 && group <= 3 && options >= 0 && options <= 7);
        argument(group == 0 || options % 2 == 0);
        state(w.connected[client]);
        List<Sub> subs = w.sessions[client].subs;
        int place = place(subs, text, group);
        state(place >= 0 || subs.size() < 6);
        Sub sub = new Sub(text, group, grade, options);
        if (place >= 0) {
            subs.set(place, sub);
        } else {
            subs.add(sub);
            if (group != 0) {
                String share = group + " " + text;
                if (!w.shares.containsKey(share)) {
                    w.shares.put(share, new ArrayList<>());
                    w.shareOrder.add(share);
                }
                w.shares.get(share).add(client);
            }
        }
        boolean never = (options & 2) != 0;
        boolean onlyNew = (options & 4) != 0;
        if (group == 0 && !never && (place < 0 || !onlyNew)) {
            for (Message m : w.retained.values()) {
                if (matches(text, m.topic)) {
                    give(client, new Message(m.topic, m.payload, Math.min(m.grade, grade), true));
                }
            }
        }
        return subs.size();
    }

    private static int place(List<Sub> subs, String filter, int group) {
        for (int i = 0; i < subs.size(); i++) {
            if (subs.get(i).filter.equals(filter) && subs.get(i).group == group) {
                return i;
            }
        }
        return -1;
    }

    int unsubscribe(int client, int group) {
        String text = take();
        client(client);
        read(text, true);
        argument(group >= 0 && group <= 3);
        state(w.connected[client]);
        int place = place(w.sessions[client].subs, text, group);
        if (place < 0) {
            return 0;
        }
        w.sessions[client].subs.remove(place);
        if (group != 0) {
            leave(client, group + " " + text);
        }
        return 1;
    }

    private Sub sub(int client, int index) {
        bounds(w.sessions[client] != null && index >= 0 && index < w.sessions[client].subs.size());
        return w.sessions[client].subs.get(index);
    }

    int subscription(int client, int index, int what) {
        client(client);
        Sub sub = sub(client, index);
        argument(what >= 0 && what <= 3);
        return List.of(sub.grade, sub.group, sub.options, sub.filter.split("/").length).get(what);
    }

    int relation(int client, int first, int second) {
        client(client);
        String one = sub(client, first).filter;
        String two = sub(client, second).filter;
        boolean meet = false;
        boolean oneCovers = true;
        boolean twoCovers = true;
        for (String topic : samples(one, two)) {
            boolean a = matches(one, topic);
            boolean b = matches(two, topic);
            meet |= a && b;
            oneCovers &= a || !b;
            twoCovers &= b || !a;
        }
        return meet ? 1 + (oneCovers ? 2 : 0) + (twoCovers ? 4 : 0) : 0;
    }

    int shareSize(int group) {
        String text = take();
        read(text, true);
        argument(group >= 1 && group <= 3);
        return w.shares.getOrDefault(group + " " + text, List.of()).size();
    }

    int shareMember(int group, int index) {
        String text = take();
        read(text, true);
        argument(group >= 1 && group <= 3);
        List<Integer> members = w.shares.getOrDefault(group + " " + text, List.of());
        bounds(index >= 0 && index < members.size());
        return members.get(index);
    }

    int publish(int client, int grade, int identifier, boolean retain, int payload) {
        String text = take();
        client(client);
        read(text, false);
        argument(grade >= 0 && grade <= 2 && payload >= 0 && payload <= 9999);
        argument(grade == 0 || identifier >= 1 && identifier <= 50);
        state(w.connected[client]);
        int copies = 0;
        if (grade < 2 || !w.sessions[client].kept.contains(identifier)) {
            copies = spread(client, text, grade, retain, payload);
        } else {
            w.totals[3]++;
        }
        if (grade == 2) {
            w.sessions[client].kept.add(identifier);
        }
        if (grade > 0) {
            send(client, new Packet(grade, identifier, 0, 0, 0, ""));
        }
        return copies;
    }

    int release(int client, int identifier) {
        client(client);
        argument(identifier >= 1 && identifier <= 50);
        state(w.connected[client]);
        send(client, new Packet(4, identifier, 0, 0, 0, ""));
        return w.sessions[client].kept.remove(identifier) ? 1 : 0;
    }

    int answer(int client, int kind, int identifier) {
        client(client);
        argument((kind == 1 || kind == 2 || kind == 4) && identifier >= 1 && identifier <= 50);
        state(w.connected[client]);
        Session s = w.sessions[client];
        for (Flight f : s.flights) {
            if (f.identifier == identifier) {
                if (kind == 2 && f.message.grade == 2) {
                    f.waits = 4;
                    f.sent = w.clock;
                    send(client, new Packet(3, identifier, 0, 0, 0, ""));
                    return 1;
                }
                if (kind == 1 && f.message.grade == 1 || kind == 4 && f.waits == 4) {
                    w.totals[9]++;
                    s.flights.remove(f);
                    unpend(client);
                    return 1;
                }
            }
        }
        return 0;
    }

    int audience(int client) {
        String text = take();
        client(client);
        read(text, false);
        int copies = 0;
        for (int i = 0; i < 6; i++) {
            copies += greatest(i, client, text) >= 0 ? 1 : 0;
        }
        for (String share : w.shareOrder) {
            copies += matches(share.substring(2), text) ? 1 : 0;
        }
        return copies;
    }

    int receive(int client) {
        client(client);
        state(w.connected[client]);
        if (w.queues.get(client).isEmpty()) {
            return -1;
        }
        present = w.queues.get(client).remove(0);
        return present.kind;
    }

    int packet(int what) {
        argument(what >= 0 && what <= 5);
        state(present != null);
        return List.of(present.kind, present.identifier, present.grade, present.payload, present.flags,
                present.topic.length()).get(what);
    }

    int topicCharacter(int index) {
        state(present != null);
        bounds(index >= 0 && index < present.topic.length());
        return present.topic.charAt(index);
    }

    int lose(int client) {
        client(client);
        state(w.connected[client]);
        return w.queues.get(client).isEmpty() ? -1 : w.queues.get(client).remove(0).kind;
    }

    int repeat(int client) {
        client(client);
        List<Packet> queue = w.queues.get(client);
        state(w.connected[client] && !queue.isEmpty());
        if (queue.size() < 30) {
            queue.add(queue.get(0));
        }
        return queue.size();
    }

    int length(int client, int which) {
        client(client);
        argument(which >= 0 && which <= 4);
        Session s = w.sessions[client];
        if (which == 0) {
            return w.queues.get(client).size();
        }
        if (s == null) {
            return 0;
        }
        return List.of(s.flights.size(), s.pending.size(), s.kept.size(), s.subs.size()).get(which - 1);
    }

    int inFlight(int client, int index, int what) {
        client(client);
        Session s = w.sessions[client];
        bounds(s != null && index >= 0 && index < s.flights.size());
        argument(what >= 0 && what <= 4);
        Flight f = s.flights.get(index);
        return List.of(f.identifier, f.message.grade, f.message.payload, f.waits, f.sent).get(what);
    }

    int advance(int ticks) {
        argument(ticks >= 1 && ticks <= 100);
        for (int t = 0; t < ticks; t++) {
            w.clock++;
            for (int i = 0; i < 6; i++) {
                if (w.connected[i] && w.options[1] != 0) {
                    for (Flight f : w.sessions[i].flights) {
                        if (f.sent + w.options[1] <= w.clock) {
                            again(i, f);
                        }
                    }
                }
            }
            for (int i = 0; i < 6; i++) {
                w.loads[i] = w.loads[i] * 0.75f + w.sent[i] * 0.25f;
                w.sent[i] = 0;
            }
            for (int i = 0; i < 6; i++) {
                if (w.sessions[i] != null && !w.connected[i] && w.sessions[i].since + w.options[2] <= w.clock) {
                    remove(i);
                    w.totals[7]++;
                }
            }
        }
        return w.clock;
    }

    int load(int client) {
        client(client);
        return (int) (w.loads[client] * 1000.0f);
    }

    int retainedCount() {
        return w.retained.size();
    }

    int retained(int index, int what) {
        bounds(index >= 0 && index < w.retained.size());
        argument(what >= 0 && what <= 2);
        Message m = new ArrayList<>(w.retained.values()).get(index);
        return List.of(m.grade, m.payload, m.topic.length()).get(what);
    }

    int published() {
        String text = take();
        read(text, false);
        return w.published.getOrDefault(text, 0);
    }

    int total(int what) {
        argument(what >= 0 && what <= 9);
        return w.totals[what];
    }

    int save() {
        saved = w.copy();
        return w.clock;
    }

    int restore() {
        state(saved != null);
        w = saved.copy();
        return w.clock;
    }
}
