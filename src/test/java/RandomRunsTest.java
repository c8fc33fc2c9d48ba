import java.util.ArrayList;
import java.util.List;
import java.util.Map;
import java.util.Random;
import java.util.TreeMap;

/** Every promise in runs of 512 calls with arguments of all kinds: each answer is compared with the Model's. */
public final class RandomRunsTest {
    private static final int RUNS = 3000;
    private static final int CALLS = 512;

    private interface Call {
        long on();
    }

    private final Random random;
    private final int run;
    private final CoapDesk desk = new CoapDesk();
    private final Model model = new Model();
    private final List<String> told = new ArrayList<>();
    private final Map<String, Integer> seen;
    private boolean wrong = false;

    private RandomRunsTest(int run, Map<String, Integer> seen) {
        this.run = run;
        this.random = new Random(run);
        this.seen = seen;
    }

    private static String answer(Call call) {
        try {
            return "" + call.on();
        } catch (RuntimeException e) {
            return "throws." + e.getClass().getSimpleName();
        }
    }

    private String same(String name, Call ofDesk, Call ofModel) {
        if (wrong || told.size() >= CALLS) {
            return "";
        }
        String due = answer(ofModel);
        String got = answer(ofDesk);
        told.add(name + " -> " + got);
        if (name.startsWith("serve") || name.startsWith("read") || got.startsWith("throws")) {
            seen.merge(name.substring(0, name.indexOf('(')) + " " + due, 1, Integer::sum);
        }
        if (!got.equals(due)) {
            wrong = true;
            System.out.println("run " + run + ", call " + told.size() + ": " + told.get(told.size() - 1) + ", due is " + due);
            System.out.println(told);
        }
        return due;
    }

    private void begin(int type, int code, int id, long token, int n) {
        same("begin(" + type + "," + code + "," + id + "," + token + "," + n + ")",
            () -> { desk.begin(type, code, id, token, n); return 0; },
            () -> { model.begin(type, code, id, token, n); return 0; });
    }

    private void option(int number, long w, int n) {
        same("option(" + number + "," + w + "," + n + ")",
            () -> desk.option(number, w, n), () -> model.option(number, w, n));
    }

    private void longer(long w, int n) {
        same("longer(" + w + "," + n + ")", () -> desk.longer(w, n), () -> model.longer(w, n));
    }

    private void payload(long w, int n) {
        same("payload(" + w + "," + n + ")", () -> desk.payload(w, n), () -> model.payload(w, n));
    }

    private void feed(long w, int n) {
        same("feed(" + w + "," + n + ")", () -> desk.feed(w, n), () -> model.feed(w, n));
    }

    private void write() {
        same("write()", desk::write, model::write);
    }

    private void read() {
        same("read()", desk::read, model::read);
    }

    private void end(int n) {
        same("end(" + n + ")", () -> { desk.end(n); return 0; }, () -> { model.end(n); return 0; });
    }

    private void serve(int peer) {
        same("serve(" + peer + ")", () -> desk.serve(peer), () -> model.serve(peer));
    }

    private void about(int what) {
        same("about(" + what + ")", () -> desk.about(what), () -> model.about(what));
    }

    private void byteOf(int part, int i) {
        same("byteOf(" + part + "," + i + ")", () -> desk.byteOf(part, i), () -> model.byteOf(part, i));
    }

    private void optionAt(int k, int what) {
        same("optionAt(" + k + "," + what + ")", () -> desk.optionAt(k, what), () -> model.optionAt(k, what));
    }

    private void hand(int i) {
        same("hand(" + i + ")", () -> desk.hand(i), () -> model.hand(i));
    }

    private void total(int what) {
        same("total(" + what + ")", () -> desk.total(what), () -> model.total(what));
    }

    private void resource(int k, int what) {
        same("resource(" + k + "," + what + ")", () -> desk.resource(k, what), () -> model.resource(k, what));
    }

    private int pick(int... from) {
        return from[random.nextInt(from.length)];
    }

    /** A number of 0 .. highest, now and then just outside of it or far away. */
    private int near(int highest) {
        if (random.nextInt(25) == 0) {
            return pick(-1, highest + 1, Integer.MIN_VALUE, Integer.MAX_VALUE, -2, -3);
        }
        return random.nextInt(3) == 0 ? pick(0, highest) : random.nextInt(highest + 1);
    }

    private int number() {
        return pick(0, 1, 3, 4, 5, 7, 11, 11, 12, 13, 14, 15, 23, 25, 268, 269, 270, 1000, 65534, 65535, random.nextInt(65536),
            near(65535));
    }

    private void anyCall() {
        switch (random.nextInt(15)) {
            case 0 -> begin(near(3), near(255), near(65535), random.nextLong(), near(8));
            case 1 -> option(number(), random.nextLong(), near(8));
            case 2 -> longer(random.nextLong(), near(8));
            case 3 -> payload(random.nextLong(), near(8));
            case 4 -> write();
            case 5 -> feed(random.nextLong(), near(8));
            case 6 -> end(near(Math.max(0, model.total(0))));
            case 7 -> read();
            case 8 -> about(near(5));
            case 9 -> byteOf(near(model.about(4)) - 2, near(10));
            case 10 -> optionAt(near(Math.max(0, model.about(4) - 1)), near(2));
            case 11 -> serve(near(9));
            case 12 -> hand(near(30));
            case 13 -> total(near(5));
            default -> resource(near(Math.max(0, model.total(1) - 1)), near(2));
        }
    }

    private void longOption(int number, int n) {
        option(number, random.nextLong(), Math.min(n, 8));
        for (int left = n - 8; left > 0; left -= 8) {
            longer(random.nextLong(), Math.min(left, 8));
        }
    }

    private void longPayload(int n) {
        for (int left = n; left > 0; left -= 8) {
            payload(random.nextLong(), Math.min(left, 8));
        }
    }

    private int tagOfSome() {
        int count = model.total(1);
        return count > 0 && random.nextInt(4) > 0 ? model.resource(random.nextInt(count), 2) : random.nextInt(300);
    }

    private void tagOption(int number) {
        int tag = tagOfSome();
        switch (random.nextInt(6)) {
            case 0 -> option(number, 0L, 0);
            case 1 -> option(number, random.nextLong(), random.nextInt(9));
            default -> option(number, (tag & 255) << 8 | tag >> 8, 2);
        }
    }

    private void blockOption() {
        int s = pick(0, 0, 1, 2, 3, 4, 5, 6, random.nextInt(8));
        int block = pick(0, 0, 1, 2, 3, random.nextInt(30), random.nextInt(70000));
        int value = 16 * block + 8 * random.nextInt(2) + s;
        int n = pick(value == 0 ? 0 : 1 + (31 - Integer.numberOfLeadingZeros(value)) / 8, 3, 4, 5);
        option(23, Integer.toUnsignedLong(Integer.reverseBytes(value)) >>> (n < 4 ? 8 * (4 - n) : 0), n);
    }

    private void conditions() {
        for (int i = random.nextInt(3); i > 0; i--) {
            tagOption(pick(1, 4, 4));
        }
        if (random.nextInt(6) == 0) {
            option(5, random.nextLong(), random.nextInt(3));
        }
        if (random.nextInt(2) == 0) {
            blockOption();
        }
        if (random.nextInt(12) == 0) {
            option(number(), random.nextLong(), random.nextInt(9));
        }
        if (random.nextInt(30) == 0) {
            longOption(pick(1, 4, 15, 11), 9 + random.nextInt(20));
        }
    }

    private void request(int paths, int ids, int peers, int longest) {
        int code = random.nextInt(15) == 0 ? pick(0, 5, 31, 32, random.nextInt(256)) : pick(1, 1, 1, 2, 2, 3, 3, 3, 4);
        int type = random.nextInt(20) == 0 ? pick(2, 3) : pick(0, 0, 1);
        begin(type, code, random.nextInt(ids), random.nextLong(), code == 0 && random.nextInt(4) > 0 ? 0 : pick(0, 1, 8));
        if (code != 0) {
            for (int i = pick(0, 1, 1, 1, 2); i > 0; i--) {
                option(11, 97 + random.nextInt(paths), pick(1, 1, 1, 1, 0));
            }
            if (random.nextInt(2) == 0) {
                conditions();
            }
            if (code != 1 || random.nextInt(10) == 0) {
                longPayload(random.nextInt(3) == 0 ? random.nextInt(longest + 1) : pick(0, 1, 5, 8));
            }
        }
        write();
        damage();
        serve(random.nextInt(peers));
        lookAtServer();
    }

    private void damage() {
        if (random.nextInt(15) == 0) {
            end(near(model.total(0)));
        }
        if (random.nextInt(15) == 0) {
            feed(random.nextLong(), 1 + random.nextInt(3));
        }
    }

    private void lookAtServer() {
        for (int i = 0; i < 4; i++) {
            hand(random.nextInt(16));
        }
        total(random.nextInt(6));
        if (random.nextInt(4) == 0) {
            resource(near(Math.max(0, model.total(1) - 1)), random.nextInt(3));
        }
        if (random.nextInt(6) == 0) {
            read();
            lookAtMessage();
        }
    }

    private void lookAtMessage() {
        int options = model.about(4);
        about(random.nextInt(6));
        if (options > 0) {
            int k = random.nextInt(options);
            optionAt(k, random.nextInt(3));
            byteOf(k, random.nextInt(1 + model.optionAt(k, 1)));
        }
        byteOf(-1, random.nextInt(9));
        byteOf(-2, random.nextInt(1 + model.about(5)));
    }

    private void manyPeers() {
        int spread = pick(1, 2, 4, 20);
        int ids = pick(4, 12, 200, 65536);
        int peers = pick(1, 3, 10);
        int longest = pick(20, 70, 400);
        while (told.size() < CALLS && !wrong) {
            request(spread, ids, peers, longest);
        }
    }

    private void manyMessages() {
        while (told.size() < CALLS && !wrong) {
            begin(random.nextInt(4), pick(1, 1, random.nextInt(256)), random.nextInt(65536), random.nextLong(), random.nextInt(9));
            for (int i = random.nextInt(23); i > 0; i--) {
                longOption(number(), pick(0, 1, 2, 4, 5, 8, random.nextInt(30), random.nextInt(10) == 0 ? pick(268, 269, 399) : 0));
            }
            longPayload(pick(0, 0, 1, random.nextInt(410)));
            write();
            lookAtMessage();
            damage();
            read();
            for (int i = 0; i < 5; i++) {
                hand(random.nextInt(1 + model.total(0)));
                lookAtMessage();
            }
            longer(random.nextLong(), random.nextInt(9));
        }
    }

    /** Bytes near to a message, with options told in every way, so that faults 3 to 6 come about. */
    private void rawBytes() {
        while (told.size() < CALLS && !wrong) {
            end(0);
            int token = pick(0, 0, 0, 1, 8, random.nextInt(16));
            boolean other = random.nextInt(12) == 0;
            feed((other ? pick(0, 128, 192) : 64) + 16 * random.nextInt(4) + token, 1);
            feed(random.nextLong() << 8 | pick(1, 1, 0, random.nextInt(256)), 3);
            feed(random.nextLong(), random.nextInt(10) == 0 ? random.nextInt(9) : Math.min(token, 8));
            boolean small = random.nextInt(2) == 0;
            for (int i = pick(0, 1, 5, 19, 20, 21, 22, random.nextInt(40)); i > 0; i--) {
                int length = random.nextInt(4);
                int d = small ? random.nextInt(13) : pick(0, 0, 1, 12, 13, 14, random.nextInt(30) == 0 ? 15 : 0);
                feed(16 * d + length, 1);
                feed(d == 14 ? random.nextInt(256) & pick(1, 255) : random.nextLong(), d == 14 ? 2 : d == 13 ? 1 : 0);
                feed(random.nextLong(), length);
            }
            if (random.nextInt(2) == 0) {
                feed(255, 1);
                feed(random.nextLong(), random.nextInt(3));
            }
            read();
            lookAtMessage();
            serve(random.nextInt(10));
            lookAtServer();
        }
    }

    private void simple(int code, int path) {
        begin(pick(0, 1), code, told.size(), 0L, 0);
        option(11, path, 1);
    }

    private void sent() {
        write();
        serve(random.nextInt(3));
        hand(random.nextInt(12));
        hand(model.total(0) - 1 - random.nextInt(3));
        total(0);
    }

    /** Resources come until there is no room, and go, some of them twice. */
    private void manyResources() {
        while (told.size() < CALLS && !wrong) {
            simple(random.nextInt(9) == 0 ? 4 : 3, random.nextInt(24));
            payload(random.nextLong(), random.nextInt(9));
            sent();
            resource(random.nextInt(1 + model.total(1)), random.nextInt(3));
            total(random.nextInt(3));
        }
    }

    /** One resource that grows until it is too long, looked at in blocks and with its tag. */
    private void longContents() {
        simple(3, 1);
        longPayload(random.nextInt(400));
        sent();
        while (told.size() < CALLS && !wrong) {
            simple(random.nextInt(4) == 0 ? 2 : 1, 1);
            if (model.about(1) == 2) {
                longPayload(pick(0, 1, random.nextInt(120)));
            } else if (random.nextInt(5) > 0) {
                blockOption();
            }
            if (random.nextInt(4) == 0) {
                tagOption(pick(4, 1));
            }
            sent();
            hand(random.nextInt(1 + model.total(0)));
        }
    }

    /** Messages whose bytes are 2000 or some more or less. */
    private void longMessages() {
        begin(0, 1, 1, 0L, random.nextInt(9));
        for (int i = 0; i < 4; i++) {
            longOption(number(), 400 - random.nextInt(5));
        }
        longPayload(360 + random.nextInt(10));
        for (int i = 0; i < 40; i++) {
            payload(random.nextLong(), 1);
            write();
            read();
            total(0);
        }
    }

    private boolean fits() {
        switch (run % 9) {
            case 0, 1 -> manyPeers();
            case 2 -> manyMessages();
            case 3 -> rawBytes();
            case 4 -> manyResources();
            case 5, 6 -> longContents();
            case 7 -> longMessages();
            default -> anyCall();
        }
        while (told.size() < CALLS && !wrong) {
            anyCall();
        }
        return !wrong;
    }

    public static void main(String[] args) {
        Map<String, Integer> seen = new TreeMap<>();
        int runs = args.length > 0 ? Integer.parseInt(args[0]) : RUNS;
        int bad = 0;
        for (int run = 0; run < runs && bad < 3; run++) {
            bad += new RandomRunsTest(run, seen).fits() ? 0 : 1;
        }
        if (args.length > 1) {
            System.out.println(seen);
        }
        System.out.println(runs + " runs, " + bad + " not as due");
        if (bad > 0) {
            System.exit(1);
        }
    }
}
