import java.util.ArrayList;
import java.util.Arrays;
import java.util.List;

/** The document written a second time, with lists and without care for speed, to compare answers with. */
final class Model {
    /** A fault of READING. */
    private static final class Fault extends Exception {
        private static final long serialVersionUID = 1L;
        final int number;

        Fault(int number) {
            this.number = number;
        }
    }

    private record Opt(int number, List<Integer> value) {
    }

    private static final class Msg {
        int type;
        int code;
        int id;
        List<Integer> token = new ArrayList<>();
        List<Opt> options = new ArrayList<>();
        List<Integer> payload = new ArrayList<>();

        Msg(int type, int code, int id) {
            this.type = type;
            this.code = code;
            this.id = id;
        }

        List<List<Integer>> values(int number) {
            return options.stream().filter(o -> o.number == number).map(Opt::value).toList();
        }
    }

    private static final class Res {
        List<List<Integer>> path;
        List<Integer> contents;
        int tag;
    }

    private record Past(int peer, int id, List<Integer> sent) {
    }

    private Msg msg = new Msg(0, 0, 0);
    private Opt latest = null;
    private List<Integer> hand = new ArrayList<>();
    private final List<Res> resources = new ArrayList<>();
    private final List<Past> past = new ArrayList<>();
    private int tags = 0;
    private int repeated = 0;
    private int own = 0;

    private static void need(boolean fits) {
        if (!fits) {
            throw new IllegalArgumentException();
        }
    }

    private static void mind(boolean fits) {
        if (!fits) {
            throw new IllegalStateException();
        }
    }

    private static List<Integer> low(long w, int n) {
        List<Integer> bytes = new ArrayList<>();
        for (int i = 0; i < n; i++) {
            bytes.add((int) (w & 255));
            w >>= 8;
        }
        return bytes;
    }

    private static List<Integer> tagBytes(int tag) {
        return List.of(tag / 256, tag % 256);
    }

    private static Long whole(List<Integer> value) {
        if (value.size() > 4) {
            return null;
        }
        long sum = 0;
        for (int b : value) {
            sum = sum << 8 | b;
        }
        return sum;
    }

    void begin(int type, int code, int id, long token, int n) {
        need(type >= 0 && type < 4 && code >= 0 && code < 256 && id >= 0 && id < 65536 && n >= 0 && n < 9);
        msg = new Msg(type, code, id);
        msg.token = low(token, n);
        latest = null;
    }

    int option(int number, long w, int n) {
        need(number >= 0 && number < 65536 && n >= 0 && n < 9);
        mind(msg.options.size() < 20);
        latest = new Opt(number, low(w, n));
        msg.options.add(latest);
        msg.options.sort((a, b) -> a.number - b.number);
        return msg.options.size();
    }

    int longer(long w, int n) {
        need(n >= 0 && n < 9);
        mind(latest != null && latest.value.size() + n <= 400);
        latest.value.addAll(low(w, n));
        return latest.value.size();
    }

    int payload(long w, int n) {
        need(n >= 0 && n < 9);
        mind(msg.payload.size() + n <= 400);
        msg.payload.addAll(low(w, n));
        return msg.payload.size();
    }

    int write() {
        List<Integer> out = written(msg);
        mind(out.size() <= 2000);
        hand = out;
        return out.size();
    }

    private static List<Integer> written(Msg m) {
        List<Integer> out = new ArrayList<>();
        out.add(64 + 16 * m.type + m.token.size());
        out.add(m.code);
        out.addAll(tagBytes(m.id));
        out.addAll(m.token);
        int last = 0;
        for (Opt o : m.options) {
            List<Integer> behind = new ArrayList<>();
            int d = told(o.number - last, behind);
            int n = told(o.value.size(), behind);
            out.add(16 * d + n);
            out.addAll(behind);
            out.addAll(o.value);
            last = o.number;
        }
        if (!m.payload.isEmpty()) {
            out.add(255);
            out.addAll(m.payload);
        }
        return out;
    }

    private static int told(int number, List<Integer> behind) {
        if (number <= 12) {
            return number;
        }
        if (number <= 268) {
            behind.add(number - 13);
            return 13;
        }
        behind.addAll(tagBytes(number - 269));
        return 14;
    }

    int feed(long w, int n) {
        need(n >= 0 && n < 9);
        mind(hand.size() + n <= 2000);
        hand = new ArrayList<>(hand);
        hand.addAll(low(w, n));
        return hand.size();
    }

    void end(int n) {
        need(n >= 0 && n <= hand.size());
        hand = new ArrayList<>(hand.subList(0, n));
    }

    /** Takes bytes off the front of a list; a fault if there are too few. */
    private static List<Integer> taken(List<Integer> bytes, int n, int fault) throws Fault {
        if (n > bytes.size()) {
            throw new Fault(fault);
        }
        List<Integer> front = new ArrayList<>(bytes.subList(0, n));
        bytes.subList(0, n).clear();
        return front;
    }

    private static int untold(List<Integer> bytes, int four) throws Fault {
        if (four == 15) {
            throw new Fault(4);
        }
        if (four == 14) {
            return (int) (long) whole(taken(bytes, 2, 4)) + 269;
        }
        return four == 13 ? taken(bytes, 1, 4).get(0) + 13 : four;
    }

    private static Msg parsed(List<Integer> all) throws Fault {
        List<Integer> bytes = new ArrayList<>(all);
        List<Integer> head = taken(bytes, 4, 1);
        if (head.get(0) < 64 || head.get(0) > 127) {
            throw new Fault(2);
        }
        Msg m = new Msg((head.get(0) - 64) / 16, head.get(1), head.get(2) * 256 + head.get(3));
        if (head.get(0) % 16 > 8) {
            throw new Fault(3);
        }
        m.token = taken(bytes, head.get(0) % 16, 3);
        int number = 0;
        while (!bytes.isEmpty()) {
            int first = bytes.remove(0);
            if (first == 255) {
                if (bytes.isEmpty() || bytes.size() > 400) {
                    throw new Fault(5);
                }
                m.payload = new ArrayList<>(bytes);
                break;
            }
            number += untold(bytes, first / 16);
            int n = untold(bytes, first % 16);
            if (number > 65535 || n > 400) {
                throw new Fault(4);
            }
            m.options.add(new Opt(number, taken(bytes, n, 4)));
        }
        if (m.code == 0 && all.size() > 4) {
            throw new Fault(6);
        }
        return m;
    }

    int read() {
        try {
            Msg m = parsed(hand);
            if (m.options.size() > 20) {
                throw new UnsupportedOperationException();
            }
            msg = m;
            latest = null;
            return m.options.size();
        } catch (Fault f) {
            return -f.number;
        }
    }

    int about(int what) {
        need(what >= 0 && what < 6);
        return new int[] {msg.type, msg.code, msg.id, msg.token.size(), msg.options.size(), msg.payload.size()}[what];
    }

    private static int byteAt(List<Integer> bytes, int i) {
        return i < 0 || i >= bytes.size() ? -1 : bytes.get(i);
    }

    int byteOf(int part, int i) {
        need(part >= -2 && part < msg.options.size());
        return byteAt(part == -2 ? msg.payload : part == -1 ? msg.token : msg.options.get(part).value, i);
    }

    int optionAt(int k, int what) {
        need(k >= 0 && k < msg.options.size() && what >= 0 && what < 3);
        Opt o = msg.options.get(k);
        Long number = whole(o.value);
        return what == 0 ? o.number : what == 1 ? o.value.size() : number == null ? -1 : (int) (long) number;
    }

    int hand(int i) {
        return byteAt(hand, i);
    }

    int total(int what) {
        need(what >= 0 && what < 6);
        return new int[] {hand.size(), resources.size(), tags, past.size(), repeated, own}[what];
    }

    int resource(int k, int what) {
        need(k >= 0 && k < resources.size() && what >= 0 && what < 3);
        Res r = resources.get(k);
        return new int[] {r.path.size(), r.contents.size(), r.tag}[what];
    }

    int serve(int peer) {
        need(peer >= 0 && peer < 10);
        Msg m;
        try {
            m = parsed(hand);
        } catch (Fault f) {
            m = null;
        }
        hand = new ArrayList<>();
        if (m == null || m.options.size() > 20 || m.type == 2 || m.type == 3) {
            return -1;
        }
        if (m.code == 0 || m.code > 31) {
            if (m.type == 1) {
                return -1;
            }
            hand = written(new Msg(3, 0, m.id));
            return 0;
        }
        hand = sentFor(peer, m);
        return hand.get(1);
    }

    private List<Integer> sentFor(int peer, Msg m) {
        int looked = 0;
        for (int i = past.size() - 1; i >= 0 && looked < 8; i--) {
            Past p = past.get(i);
            if (p.peer == peer) {
                looked++;
                if (p.id == m.id) {
                    repeated++;
                    return new ArrayList<>(p.sent);
                }
            }
        }
        Msg answer = new Msg(m.type == 0 ? 2 : 1, 0, m.type == 0 ? m.id : own);
        if (m.type == 1) {
            own = (own + 1) % 65536;
        }
        answer.token = m.token;
        answer.code = act(m, answer);
        past.add(new Past(peer, m.id, written(answer)));
        return written(answer);
    }

    private static boolean refused(Msg m) {
        for (Opt o : m.options) {
            Long number = whole(o.value);
            if (o.number % 2 == 1 && !Arrays.asList(1, 5, 11, 15, 23).contains(o.number)) {
                return true;
            }
            if (o.number == 23 && (number == null || number > 1048575 || number % 8 == 7)) {
                return true;
            }
            if (o.number == 1 && o.value.size() > 8) {
                return true;
            }
        }
        return m.values(5).size() > 1 || m.values(23).size() > 1;
    }

    private int act(Msg m, Msg answer) {
        if (refused(m)) {
            return 130;
        }
        if (m.code > 4) {
            return 133;
        }
        Res there = null;
        for (Res r : resources) {
            if (r.path.equals(m.values(11))) {
                there = r;
            }
        }
        if (m.code == 1) {
            return get(m, there, answer);
        }
        if (!m.values(1).isEmpty()) {
            if (there == null || !(m.values(1).contains(tagBytes(there.tag)) || m.values(1).contains(List.of()))) {
                return 140;
            }
        }
        if (!m.values(5).isEmpty() && there != null) {
            return 140;
        }
        if (m.code == 4) {
            resources.remove(there);
            return 66;
        }
        return m.code == 2 ? post(m, there, answer) : put(m, there, answer);
    }

    private static int get(Msg m, Res there, Msg answer) {
        if (there == null) {
            return 132;
        }
        Opt tag = new Opt(4, tagBytes(there.tag));
        if (m.values(4).contains(tag.value)) {
            answer.options.add(tag);
            return 67;
        }
        int length = there.contents.size();
        if (m.values(23).isEmpty() && length <= 64) {
            answer.options.add(tag);
            answer.payload = there.contents;
            return 69;
        }
        long asked = m.values(23).isEmpty() ? 2 : whole(m.values(23).get(0));
        long s = asked % 8;
        long b = 16L * (1L << s);
        long n = asked / 16;
        if (n * b > length || n * b == length && n != 0) {
            return 130;
        }
        int from = (int) (n * b);
        int to = (int) Math.min(length, n * b + b);
        long number = 16 * n + (to < length ? 8 : 0) + s;
        List<Integer> value = new ArrayList<>();
        for (long left = number; left > 0; left /= 256) {
            value.add(0, (int) (left % 256));
        }
        answer.options.add(tag);
        answer.options.add(new Opt(23, value));
        answer.payload = there.contents.subList(from, to);
        return 69;
    }

    private int post(Msg m, Res there, Msg answer) {
        if (there == null) {
            return 132;
        }
        if (there.contents.size() + m.payload.size() > 400) {
            return 141;
        }
        List<Integer> both = new ArrayList<>(there.contents);
        both.addAll(m.payload);
        return changed(there, both, answer, 68);
    }

    private int put(Msg m, Res there, Msg answer) {
        if (there != null) {
            return changed(there, m.payload, answer, 68);
        }
        if (resources.size() == 16) {
            return 143;
        }
        Res made = new Res();
        made.path = m.values(11);
        resources.add(made);
        return changed(made, m.payload, answer, 65);
    }

    private int changed(Res r, List<Integer> contents, Msg answer, int code) {
        tags = (tags + 1) % 65536;
        r.tag = tags;
        r.contents = contents;
        answer.options.add(new Opt(4, tagBytes(tags)));
        return code;
    }
}
