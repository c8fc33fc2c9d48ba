/** The edges that promises 1 to 5 and 10 to 12 name: of the message begun, one method for each sentence. */
public final class MessageEdgesTest {
    private static final Checks CHECKS = new Checks();
    private static final long WORD = 0xf8e7d6c5b4a39281L;
    /** The bytes of that word, the lowest first. */
    private static final String WORD_BYTES = "8192a3b4c5d6e7f8";

    public static void main(String[] args) {
        newObject();
        newObjectsShareNothing();
        beginType();
        beginCode();
        beginId();
        beginLength();
        beginToken();
        beginEmpties();
        optionNumber();
        optionLength();
        optionValue();
        optionCount();
        optionOrder();
        optionAfterRead();
        longerLength();
        longerNonePut();
        longerStillPut();
        longerLatest();
        longerLimit();
        payloadLength();
        payloadLimit();
        payloadAfterRead();
        aboutWhat();
        aboutEmptyAndFull();
        byteOfPart();
        byteOfIndex();
        byteOfEmpty();
        optionAtOption();
        optionAtWhat();
        wholeNumbers();
        CHECKS.finish();
    }

    private static void newObject() {
        CHECKS.sentence("1: No resources, nothing at hand, nothing sent; no token, options, payload");
        Desk d = new Desk();
        CHECKS.same("the message", d.abouts(), "0 0 0 0 0 0");
        CHECKS.same("the server", d.totals(), "0 0 0 0 0");
        CHECKS.same("bytes at hand", d.desk.total(0), 0);
        CHECKS.same("hand(0)", d.desk.hand(0), -1);
        CHECKS.same("a byte of the token", d.desk.byteOf(-1, 0), -1);
        CHECKS.same("a byte of the payload", d.desk.byteOf(-2, 0), -1);
        CHECKS.illegalArgument("byteOf(0, 0)", () -> d.desk.byteOf(0, 0));
        CHECKS.illegalArgument("optionAt(0, 0)", () -> d.desk.optionAt(0, 0));
        CHECKS.illegalArgument("resource(0, 0)", () -> d.desk.resource(0, 0));
        CHECKS.illegalArgument("end(1)", () -> d.desk.end(1));
        CHECKS.illegalState("longer(0, 0)", () -> d.desk.longer(0, 0));
        d.desk.end(0);
        CHECKS.same("read()", d.desk.read(), -1);
        for (int peer = 0; peer <= 9; peer++) {
            CHECKS.same("serve(" + peer + ")", d.desk.serve(peer), -1);
        }
        CHECKS.same("write()", d.desk.write(), 4);
        CHECKS.same("its bytes", d.atHand(), "40000000");
    }

    private static void newObjectsShareNothing() {
        CHECKS.sentence("1: A new object");
        Desk used = new Desk();
        used.desk.begin(1, 3, 7, WORD, 8);
        used.option(11, "61").payload("abc").served(0);
        used.option(12, "62");
        Desk d = new Desk();
        CHECKS.same("the message of another", d.message(), "0 0 0 t p");
        CHECKS.same("the server of another", d.totals(), "0 0 0 0 0");
        CHECKS.same("the bytes of another", d.desk.total(0), 0);
        CHECKS.illegalState("the option put latest in another", () -> d.desk.longer(0, 1));
        used.desk.begin(1, 3, 7, WORD, 8);
        d.begun(0, 3, 7).served(0);
        CHECKS.same("the first one keeps its own", used.totals(), "1 1 1 0 1");
    }

    private static void beginType() {
        CHECKS.sentence("2: type is not 0 .. 3");
        Desk d = new Desk();
        for (int type = 0; type <= 3; type++) {
            d.desk.begin(type, 1, 1, 0, 0);
            CHECKS.same("the type", d.desk.about(0), type);
        }
        CHECKS.illegalArgument("4", () -> d.desk.begin(4, 1, 1, 0, 0));
        CHECKS.illegalArgument("-1", () -> d.desk.begin(-1, 1, 1, 0, 0));
        for (int far : Checks.FAR) {
            CHECKS.illegalArgument("" + far, () -> d.desk.begin(far, 1, 1, 0, 0));
        }
        CHECKS.same("the type stays", d.desk.about(0), 3);
    }

    private static void beginCode() {
        CHECKS.sentence("2: code not 0 .. 255");
        Desk d = new Desk();
        for (int code : new int[] {0, 1, 127, 128, 254, 255}) {
            d.desk.begin(1, code, 1, 0, 0);
            CHECKS.same("the code", d.desk.about(1), code);
        }
        CHECKS.illegalArgument("256", () -> d.desk.begin(1, 256, 1, 0, 0));
        CHECKS.illegalArgument("-1", () -> d.desk.begin(1, -1, 1, 0, 0));
        for (int far : Checks.FAR) {
            CHECKS.illegalArgument("" + far, () -> d.desk.begin(1, far, 1, 0, 0));
        }
        CHECKS.same("the code stays", d.desk.about(1), 255);
    }

    private static void beginId() {
        CHECKS.sentence("2: id not 0 .. 65535");
        Desk d = new Desk();
        for (int id : new int[] {0, 1, 255, 256, 32767, 32768, 65534, 65535}) {
            d.desk.begin(1, 1, id, 0, 0);
            CHECKS.same("the ID", d.desk.about(2), id);
        }
        CHECKS.illegalArgument("65536", () -> d.desk.begin(1, 1, 65536, 0, 0));
        CHECKS.illegalArgument("-1", () -> d.desk.begin(1, 1, -1, 0, 0));
        for (int far : Checks.FAR) {
            CHECKS.illegalArgument("" + far, () -> d.desk.begin(1, 1, far, 0, 0));
        }
        CHECKS.same("the ID stays", d.desk.about(2), 65535);
    }

    private static void beginLength() {
        CHECKS.sentence("2: n not 0 .. 8");
        Desk d = new Desk();
        for (int n = 0; n <= 8; n++) {
            d.desk.begin(1, 1, 1, WORD, n);
            CHECKS.same("how long the token is", d.desk.about(3), n);
        }
        CHECKS.illegalArgument("9", () -> d.desk.begin(1, 1, 1, WORD, 9));
        CHECKS.illegalArgument("-1", () -> d.desk.begin(1, 1, 1, WORD, -1));
        for (int far : Checks.FAR) {
            CHECKS.illegalArgument("" + far, () -> d.desk.begin(1, 1, 1, WORD, far));
        }
        CHECKS.same("the token stays", d.part(-1), WORD_BYTES);
    }

    private static void beginToken() {
        CHECKS.sentence("2: its token is the n lowest bytes of it, the lowest first");
        Desk d = new Desk();
        for (int n = 0; n <= 8; n++) {
            d.desk.begin(1, 1, 1, WORD, n);
            CHECKS.same("the token of " + n, d.part(-1), WORD_BYTES.substring(0, 2 * n));
        }
        for (long word : new long[] {0L, -1L}) {
            d.desk.begin(1, 1, 1, word, 8);
            CHECKS.same("the token of " + word, d.part(-1), (word == 0 ? "00" : "ff").repeat(8));
        }
    }

    private static void beginEmpties() {
        CHECKS.sentence("2: no options, no payload");
        Desk d = full();
        CHECKS.same("a full message", d.abouts(), "3 255 65535 8 20 400");
        d.desk.begin(0, 1, 2, 0, 0);
        CHECKS.same("begun again", d.abouts(), "0 1 2 0 0 0");
        CHECKS.same("no token", d.desk.byteOf(-1, 0), -1);
        CHECKS.same("no payload", d.desk.byteOf(-2, 0), -1);
        CHECKS.illegalArgument("no option", () -> d.desk.byteOf(0, 0));
        CHECKS.same("written", d.desk.write(), 4);
        CHECKS.same("an option", d.desk.option(4, 0, 0), 1);
        CHECKS.same("without what was there", d.desk.optionAt(0, 1), 0);
        CHECKS.same("a payload", d.desk.payload(0x55, 1), 1);
        CHECKS.same("all of it", d.message(), "0 1 2 t 4= p55");
    }

    /** A message with the highest type, code and ID, the longest token, 20 options and a payload of 400 bytes. */
    private static Desk full() {
        Desk d = new Desk();
        d.desk.begin(3, 255, 65535, WORD, 8);
        for (int k = 0; k < 20; k++) {
            d.desk.option(k, k, 8);
        }
        return d.counted(400);
    }

    private static void optionNumber() {
        CHECKS.sentence("3: number is not 0 .. 65535");
        Desk d = new Desk();
        int[] numbers = {0, 1, 255, 256, 32767, 32768, 65534, 65535};
        for (int k = 0; k < numbers.length; k++) {
            CHECKS.same("option " + numbers[k], d.desk.option(numbers[k], 0, 0), k + 1);
            CHECKS.same("its number", d.desk.optionAt(k, 0), numbers[k]);
        }
        CHECKS.illegalArgument("65536", () -> d.desk.option(65536, 0, 0));
        CHECKS.illegalArgument("-1", () -> d.desk.option(-1, 0, 0));
        for (int far : Checks.FAR) {
            CHECKS.illegalArgument("" + far, () -> d.desk.option(far, 0, 0));
        }
        CHECKS.same("no more were put", d.desk.about(4), numbers.length);
    }

    private static void optionLength() {
        CHECKS.sentence("3: n not 0 .. 8");
        Desk d = new Desk();
        for (int n = 0; n <= 8; n++) {
            CHECKS.same("option of " + n, d.desk.option(n, WORD, n), n + 1);
            CHECKS.same("how long it is", d.desk.optionAt(n, 1), n);
        }
        CHECKS.illegalArgument("9", () -> d.desk.option(9, WORD, 9));
        CHECKS.illegalArgument("-1", () -> d.desk.option(9, WORD, -1));
        for (int far : Checks.FAR) {
            CHECKS.illegalArgument("" + far, () -> d.desk.option(9, WORD, far));
        }
        CHECKS.same("no more were put", d.desk.about(4), 9);
    }

    private static void optionValue() {
        CHECKS.sentence("3: its value the n lowest bytes of w, the lowest first");
        Desk d = new Desk();
        for (int n = 0; n <= 8; n++) {
            d.desk.option(n, WORD, n);
            CHECKS.same("the value of " + n, d.part(n), WORD_BYTES.substring(0, 2 * n));
        }
    }

    private static void optionCount() {
        CHECKS.sentence("3: how many it has; IllegalStateException: there are 20");
        Desk d = new Desk();
        for (int k = 1; k <= 20; k++) {
            CHECKS.same("option " + k, d.desk.option(7, k, 1), k);
        }
        CHECKS.illegalState("a 21st behind them", () -> d.desk.option(8, 0, 0));
        CHECKS.illegalState("a 21st before them", () -> d.desk.option(0, 0, 0));
        CHECKS.illegalState("a 21st among them", () -> d.desk.option(7, 0, 8));
        CHECKS.same("there are 20", d.desk.about(4), 20);
        CHECKS.same("the first", d.part(0), "01");
        CHECKS.same("the last", d.part(19), "14");
        d.begun(0, 0, 0);
        CHECKS.same("begun again there is room", d.desk.option(8, 0, 0), 1);
    }

    private static void optionOrder() {
        CHECKS.sentence("Terms: Options are in order of their numbers, equal ones as they were put");
        Desk up = new Desk();
        Desk down = new Desk();
        Desk equal = new Desk();
        Desk mixed = new Desk();
        for (int k = 0; k < 20; k++) {
            up.desk.option(3277 * k, k, 1);
            down.desk.option(65535 - 3277 * k, k, 1);
            equal.desk.option(65535, k, 1);
            mixed.desk.option(k % 2 == 0 ? 9 : 8, k, 1);
        }
        for (int k = 0; k < 20; k++) {
            CHECKS.same("put upwards, " + k, up.desk.optionAt(k, 0) + "=" + up.part(k), 3277 * k + "=" + Desk.hex(k));
            CHECKS.same("put downwards, " + k, down.desk.optionAt(k, 0) + "=" + down.part(k),
                65535 - 3277 * (19 - k) + "=" + Desk.hex(19 - k));
            CHECKS.same("equal ones, " + k, equal.part(k), Desk.hex(k));
            CHECKS.same("two numbers, " + k, mixed.desk.optionAt(k, 0) + "=" + mixed.part(k),
                k < 10 ? "8=" + Desk.hex(2 * k + 1) : "9=" + Desk.hex(2 * (k - 10)));
        }
    }

    private static void optionAfterRead() {
        CHECKS.sentence("3: of the message begun, also if it was read");
        Desk d = new Desk();
        CHECKS.same("read of 19", d.fed("40010000").times(0x10, 19).desk.read(), 19);
        CHECKS.same("one more, behind its equal", d.desk.option(5, 0xee, 1), 20);
        CHECKS.same("the 5 that was read", d.part(4), "");
        CHECKS.same("the 5 that was put", d.part(5), "ee");
        CHECKS.illegalState("a 21st", () -> d.desk.option(5, 0, 0));
        CHECKS.same("read of 20", d.fed("40010000").times(0x10, 20).desk.read(), 20);
        CHECKS.illegalState("a 21st behind read", () -> d.desk.option(5, 0, 0));
    }

    private static void longerLength() {
        CHECKS.sentence("4: n is not 0 .. 8; n bytes come behind the value: how long it is");
        Desk d = new Desk();
        d.desk.option(3, 0, 0);
        StringBuilder due = new StringBuilder();
        for (int n = 0; n <= 8; n++) {
            due.append(WORD_BYTES, 0, 2 * n);
            CHECKS.same("longer by " + n, d.desk.longer(WORD, n), due.length() / 2);
        }
        CHECKS.illegalArgument("9", () -> d.desk.longer(WORD, 9));
        CHECKS.illegalArgument("-1", () -> d.desk.longer(WORD, -1));
        for (int far : Checks.FAR) {
            CHECKS.illegalArgument("" + far, () -> d.desk.longer(WORD, far));
        }
        CHECKS.same("the value", d.part(0), due.toString());
    }

    private static void longerNonePut() {
        CHECKS.sentence("4: IllegalStateException: none was put since begin() or read()");
        Desk d = new Desk();
        for (int n = 0; n <= 8; n += 8) {
            int length = n;
            CHECKS.illegalState("a new object, n " + n, () -> d.desk.longer(0, length));
        }
        d.option(3, "aa").begun(0, 1, 0);
        for (int n = 0; n <= 8; n += 8) {
            int length = n;
            CHECKS.illegalState("behind begin, n " + n, () -> d.desk.longer(0, length));
        }
        d.option(3, "aa").desk.write();
        d.desk.read();
        for (int n = 0; n <= 8; n += 8) {
            int length = n;
            CHECKS.illegalState("behind read, n " + n, () -> d.desk.longer(0, length));
        }
        CHECKS.same("the option that was read", d.message(), "0 1 0 t 3=aa p");
        d.desk.option(2, 0xbb, 1);
        CHECKS.same("put since read", d.desk.longer(0xcc, 1), 2);
        CHECKS.same("in its place", d.message(), "0 1 0 t 2=bbcc 3=aa p");
    }

    private static void longerStillPut() {
        CHECKS.sentence("4: the option put latest, whatever else was called but begin() or read()");
        Desk d = new Desk().begun(0, 1, 0).option(3, "");
        d.desk.payload(1, 1);
        CHECKS.same("behind payload", d.desk.longer(1, 1), 1);
        d.desk.write();
        CHECKS.same("behind write", d.desk.longer(2, 1), 2);
        d.desk.feed(0, 1);
        CHECKS.same("behind feed", d.desk.longer(3, 1), 3);
        d.desk.end(2);
        CHECKS.same("behind end", d.desk.longer(4, 1), 4);
        d.desk.serve(0);
        CHECKS.same("behind serve of nothing to read", d.desk.longer(5, 1), 5);
        d.served(0);
        CHECKS.same("behind serve of a request", d.desk.longer(6, 1), 6);
        CHECKS.illegalArgument("begin", () -> d.desk.begin(4, 0, 0, 0, 0));
        CHECKS.same("behind a begin that threw", d.desk.longer(7, 1), 7);
        d.fed("40010000").times(0, 21);
        CHECKS.unsupported("read", d.desk::read);
        CHECKS.same("behind a read that threw", d.desk.longer(8, 1), 8);
        CHECKS.same("the option", d.message(), "0 1 0 t 3=0102030405060708 p01");
    }

    private static void longerLatest() {
        CHECKS.sentence("4: behind the value of the option put latest");
        Desk d = new Desk().option(9, "01").option(5, "02").option(7, "03");
        CHECKS.same("longer", d.desk.longer(0xaa, 1), 2);
        CHECKS.same("that in the middle", d.message(), "0 0 0 t 5=02 7=03aa 9=01 p");
        d.option(5, "04");
        CHECKS.same("longer", d.desk.longer(0xbb, 1), 2);
        CHECKS.same("the second of equal ones", d.message(), "0 0 0 t 5=02 5=04bb 7=03aa 9=01 p");
        CHECKS.illegalArgument("option(65536, 0, 0)", () -> d.desk.option(65536, 0, 0));
        CHECKS.same("longer behind an option that threw", d.desk.longer(0xcc, 1), 3);
        CHECKS.same("the same one", d.part(1), "04bbcc");
    }

    private static void longerLimit() {
        CHECKS.sentence("4: IllegalStateException: it would be longer than 400");
        Desk d = new Desk().longOption(3, 392);
        CHECKS.same("392 and 8", d.desk.longer(WORD, 8), 400);
        CHECKS.same("400 and 0", d.desk.longer(WORD, 0), 400);
        for (int n = 1; n <= 8; n++) {
            int length = n;
            CHECKS.illegalState("400 and " + n, () -> d.desk.longer(WORD, length));
        }
        CHECKS.same("how long it stays", d.desk.optionAt(0, 1), 400);
        CHECKS.same("its last byte", d.desk.byteOf(0, 399), 0xf8);
        CHECKS.same("nothing behind it", d.desk.byteOf(0, 400), -1);
        Desk near = new Desk().longOption(3, 393);
        CHECKS.illegalState("393 and 8", () -> near.desk.longer(WORD, 8));
        CHECKS.same("nothing of that", near.desk.byteOf(0, 393), -1);
        CHECKS.same("393 and 7", near.desk.longer(WORD, 7), 400);
        CHECKS.same("the next option may be longer", near.option(3, "").desk.longer(WORD, 8), 8);
    }

    private static void payloadLength() {
        CHECKS.sentence("5: n is not 0 .. 8; n bytes come behind the payload: how long it is");
        Desk d = new Desk();
        StringBuilder due = new StringBuilder();
        for (int n = 0; n <= 8; n++) {
            due.append(WORD_BYTES, 0, 2 * n);
            CHECKS.same("payload of " + n, d.desk.payload(WORD, n), due.length() / 2);
        }
        CHECKS.illegalArgument("9", () -> d.desk.payload(WORD, 9));
        CHECKS.illegalArgument("-1", () -> d.desk.payload(WORD, -1));
        for (int far : Checks.FAR) {
            CHECKS.illegalArgument("" + far, () -> d.desk.payload(WORD, far));
        }
        CHECKS.same("the payload", d.part(-2), due.toString());
    }

    private static void payloadLimit() {
        CHECKS.sentence("5: IllegalStateException: it would be longer than 400");
        Desk d = new Desk().counted(392);
        CHECKS.same("392 and 8", d.desk.payload(WORD, 8), 400);
        CHECKS.same("400 and 0", d.desk.payload(WORD, 0), 400);
        for (int n = 1; n <= 8; n++) {
            int length = n;
            CHECKS.illegalState("400 and " + n, () -> d.desk.payload(WORD, length));
        }
        CHECKS.same("how long it stays", d.desk.about(5), 400);
        CHECKS.same("its last byte", d.desk.byteOf(-2, 399), 0xf8);
        CHECKS.same("nothing behind it", d.desk.byteOf(-2, 400), -1);
        Desk near = new Desk().counted(393);
        CHECKS.illegalState("393 and 8", () -> near.desk.payload(WORD, 8));
        CHECKS.same("nothing of that", near.desk.byteOf(-2, 393), -1);
        CHECKS.same("393 and 7", near.desk.payload(WORD, 7), 400);
        near.begun(0, 0, 0);
        CHECKS.same("begun again there is room", near.desk.payload(WORD, 8), 8);
    }

    private static void payloadAfterRead() {
        CHECKS.sentence("5: of the message begun, also if it was read");
        Desk d = new Desk();
        d.read("40010000 ff 0102");
        CHECKS.same("behind what was read", d.desk.payload(0x0403, 2), 4);
        CHECKS.same("it", d.part(-2), "01020304");
        d.fed("40010000 ff").times(9, 400).desk.read();
        CHECKS.illegalState("400 were read, and 1", () -> d.desk.payload(0, 1));
        CHECKS.same("400 were read, and 0", d.desk.payload(0, 0), 400);
        d.read("40010000");
        CHECKS.same("none was read, and 1", d.desk.payload(0, 1), 1);
    }

    private static void aboutWhat() {
        CHECKS.sentence("10: what = 0 .. 5; IllegalArgumentException");
        Desk d = new Desk();
        d.desk.begin(2, 69, 4660, WORD, 5);
        d.option(9, "").option(9, "").payload("abc");
        CHECKS.same("0 .. 5", d.abouts(), "2 69 4660 5 2 3");
        CHECKS.illegalArgument("-1", () -> d.desk.about(-1));
        CHECKS.illegalArgument("6", () -> d.desk.about(6));
        for (int far : Checks.FAR) {
            CHECKS.illegalArgument("" + far, () -> d.desk.about(far));
        }
    }

    private static void aboutEmptyAndFull() {
        CHECKS.sentence("10: its type, code, ID, how long its token is, options, how long its payload is");
        CHECKS.same("the least", new Desk().abouts(), "0 0 0 0 0 0");
        CHECKS.same("the most", full().abouts(), "3 255 65535 8 20 400");
    }

    private static void byteOfPart() {
        CHECKS.sentence("11: IllegalArgumentException: there is no such part");
        Desk d = new Desk();
        d.desk.begin(0, 0, 0, 0x11, 1);
        d.payload("z");
        CHECKS.illegalArgument("0 of no options", () -> d.desk.byteOf(0, 0));
        for (int k = 0; k < 20; k++) {
            d.desk.option(k, 0x20 + k, 1);
            int behind = k + 1;
            CHECKS.same("part " + k, d.desk.byteOf(k, 0), 0x20 + k);
            CHECKS.illegalArgument("part " + behind, () -> d.desk.byteOf(behind, 0));
        }
        CHECKS.same("the token", d.desk.byteOf(-1, 0), 0x11);
        CHECKS.same("the payload", d.desk.byteOf(-2, 0), 'z');
        CHECKS.illegalArgument("-3", () -> d.desk.byteOf(-3, 0));
        for (int far : Checks.FAR) {
            if (far != -2) {
                CHECKS.illegalArgument("" + far, () -> d.desk.byteOf(far, 0));
                CHECKS.illegalArgument(far + ", a byte behind all", () -> d.desk.byteOf(far, 400));
            }
        }
    }

    private static void byteOfIndex() {
        CHECKS.sentence("11: Byte i of its token, of the value of option part, or of its payload; NONE behind it");
        Desk d = new Desk();
        d.desk.begin(0, 0, 0, WORD, 8);
        d.longOption(3, 400).counted(400);
        CHECKS.same("the token", d.part(-1), WORD_BYTES);
        int[][] rows = {
            {-1, 7, 0xf8}, {-1, 8, -1}, {0, 0, 0x88}, {0, 399, 0x11}, {0, 400, -1},
            {-2, 0, 0}, {-2, 127, 127}, {-2, 128, 128}, {-2, 255, 255}, {-2, 256, 0}, {-2, 399, 143}, {-2, 400, -1},
        };
        for (int[] row : rows) {
            CHECKS.same("byteOf(" + row[0] + ", " + row[1] + ")", d.desk.byteOf(row[0], row[1]), row[2]);
        }
        for (int part = -2; part <= 0; part++) {
            for (int i : new int[] {401, 65536, Integer.MAX_VALUE, -1, Integer.MIN_VALUE}) {
                CHECKS.same("byteOf(" + part + ", " + i + ")", d.desk.byteOf(part, i), -1);
            }
        }
    }

    private static void byteOfEmpty() {
        CHECKS.sentence("11: NONE behind it, if there is none at all");
        Desk d = full().begun(0, 0, 0).option(1, "");
        for (int part = -2; part <= 0; part++) {
            CHECKS.same("byteOf(" + part + ", 0)", d.desk.byteOf(part, 0), -1);
        }
    }

    private static void optionAtOption() {
        CHECKS.sentence("12: Of option k, in order; IllegalArgumentException");
        Desk d = new Desk();
        CHECKS.illegalArgument("0 of none", () -> d.desk.optionAt(0, 0));
        for (int k = 0; k < 20; k++) {
            d.desk.option(100 + k, 0, 0);
            int behind = k + 1;
            CHECKS.same("option " + k, d.desk.optionAt(k, 0), 100 + k);
            CHECKS.illegalArgument("option " + behind, () -> d.desk.optionAt(behind, 0));
        }
        CHECKS.illegalArgument("-1", () -> d.desk.optionAt(-1, 0));
        for (int far : Checks.FAR) {
            CHECKS.illegalArgument("" + far, () -> d.desk.optionAt(far, 0));
        }
    }

    private static void optionAtWhat() {
        CHECKS.sentence("12: its number, how long its value is, its WHOLE NUMBER; IllegalArgumentException");
        Desk d = new Desk().longOption(65535, 400).option(0, "");
        CHECKS.same("the least number", d.desk.optionAt(0, 0), 0);
        CHECKS.same("the shortest", d.desk.optionAt(0, 1), 0);
        CHECKS.same("its whole number", d.desk.optionAt(0, 2), 0);
        CHECKS.same("the highest number", d.desk.optionAt(1, 0), 65535);
        CHECKS.same("the longest", d.desk.optionAt(1, 1), 400);
        CHECKS.same("no whole number", d.desk.optionAt(1, 2), -1);
        CHECKS.illegalArgument("-1", () -> d.desk.optionAt(0, -1));
        CHECKS.illegalArgument("3", () -> d.desk.optionAt(0, 3));
        for (int far : Checks.FAR) {
            CHECKS.illegalArgument("" + far, () -> d.desk.optionAt(0, far));
        }
    }

    private static void wholeNumbers() {
        CHECKS.sentence("Terms: its bytes, high ones first, 0 for none; above 4 bytes it is none (its 32 bits)");
        Object[][] rows = {
            {"", 0}, {"00", 0}, {"80", 128}, {"ff", 255}, {"0100", 256}, {"0102", 258}, {"ffff", 65535}, {"010203", 66051},
            {"ffffff", 16777215}, {"00000000", 0}, {"00000001", 1}, {"01020304", 16909060}, {"7fffffff", Integer.MAX_VALUE},
            {"80000000", Integer.MIN_VALUE}, {"fffffffe", -2}, {"ffffffff", -1}, {"0000000000", -1}, {"0000000001", -1},
            {"0000000000000000", -1},
        };
        for (Object[] row : rows) {
            CHECKS.same("of " + row[0], new Desk().option(9, (String) row[0]).desk.optionAt(0, 2), (Integer) row[1]);
        }
    }
}
