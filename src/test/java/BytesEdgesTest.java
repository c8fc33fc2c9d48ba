/** The edges that promises 6 to 9 and 14, WRITTEN and READING name: of the bytes at hand, one method for each sentence. */
public final class BytesEdgesTest {
    private static final Checks CHECKS = new Checks();
    private static final long WORD = 0xf8e7d6c5b4a39281L;
    private static final String WORD_BYTES = "8192a3b4c5d6e7f8";
    private static final String GET = "40010000 ";

    public static void main(String[] args) {
        writtenHead();
        writtenDifference();
        writtenLaterDifference();
        writtenLength();
        writtenBothLong();
        writtenPayload();
        writeInPlace();
        writeStaysBegun();
        writeLimit();
        writeLimitOfHead();
        feedLength();
        feedLimit();
        endRange();
        endKeepsFirst();
        handIndex();
        fault1();
        fault2();
        fault3();
        fault4Fifteen();
        fault4NotAllThere();
        fault4Number();
        fault4Value();
        fault5();
        fault6();
        firstFault();
        noFault();
        readBecomes();
        readCount();
        readFaultLeaves();
        readTooMany();
        writtenIsRead();
        CHECKS.finish();
    }

    private static String written(Desk d) {
        d.desk.write();
        return d.atHand();
    }

    private static void writtenHead() {
        CHECKS.sentence("WRITTEN: a byte 64 + 16 * type + how long the token is; the code; the ID (high byte first)");
        Desk d = new Desk();
        for (int type = 0; type <= 3; type++) {
            for (int n = 0; n <= 8; n += 4) {
                d.desk.begin(type, 255, 0x01fe, WORD, n);
                CHECKS.same("write", d.desk.write(), 4 + n);
                CHECKS.same("type " + type + ", token of " + n, d.atHand(),
                    Desk.hex(64 + 16 * type + n) + "ff01fe" + WORD_BYTES.substring(0, 2 * n));
            }
        }
        CHECKS.same("the least", written(d.begun(0, 0, 0)), "40000000");
        CHECKS.same("the highest", written(d.begun(3, 255, 65535)), "70ffffff");
    }

    private static void writtenDifference() {
        CHECKS.sentence("WRITTEN: d told so up to 12; 13 for one byte more, with 13 less; 14 for two, with 269 less; of 0 for the first");
        Object[][] rows = {
            {0, "00"}, {1, "10"}, {12, "c0"}, {13, "d000"}, {14, "d001"}, {140, "d07f"}, {141, "d080"}, {267, "d0fe"},
            {268, "d0ff"}, {269, "e00000"}, {270, "e00001"}, {524, "e000ff"}, {525, "e00100"}, {33036, "e07fff"},
            {33037, "e08000"}, {65534, "e0fef1"}, {65535, "e0fef2"},
        };
        for (Object[] row : rows) {
            Desk d = new Desk().begun(0, 1, 0).option((Integer) row[0], "");
            CHECKS.same("option " + row[0], written(d), "40010000" + row[1]);
        }
    }

    private static void writtenLaterDifference() {
        CHECKS.sentence("WRITTEN: d its number less that of the one before");
        Object[][] rows = {
            {0, "00"}, {12, "c0"}, {13, "d000"}, {268, "d0ff"}, {269, "e00000"}, {64535, "e0fb0a"},
        };
        for (Object[] row : rows) {
            Desk d = new Desk().begun(0, 1, 0).option(1000, "").option(1000 + (Integer) row[0], "");
            CHECKS.same("1000 and " + row[0] + " more", written(d), "40010000" + "e002db" + row[1]);
        }
        Desk many = new Desk().begun(0, 1, 0);
        for (int k = 20; k > 0; k--) {
            many.desk.option(12 * k, 0, 0);
        }
        CHECKS.same("20 of them", written(many), "40010000" + "c0".repeat(20));
    }

    private static void writtenLength() {
        CHECKS.sentence("WRITTEN: n how long its value is, told so up to 12; 13 for one byte more, 14 for two");
        Object[][] rows = {
            {0, "10"}, {1, "11"}, {12, "1c"}, {13, "1d00"}, {14, "1d01"}, {140, "1d7f"}, {141, "1d80"}, {268, "1dff"},
            {269, "1e0000"}, {270, "1e0001"}, {399, "1e0082"}, {400, "1e0083"},
        };
        for (Object[] row : rows) {
            int n = (Integer) row[0];
            String head = (String) row[1];
            Desk d = new Desk().begun(0, 1, 0).longOption(1, n);
            int start = 4 + head.length() / 2;
            CHECKS.same("write with a value of " + n, d.desk.write(), start + n);
            CHECKS.same("its head", d.atHand(4, start), head);
            CHECKS.same("its first byte", d.desk.hand(start), n == 0 ? -1 : 0x88);
            CHECKS.same("its last byte", d.desk.hand(start + n - 1), n == 0 ? 0x10 : d.desk.byteOf(0, n - 1));
        }
    }

    private static void writtenBothLong() {
        CHECKS.sentence("WRITTEN: that of d before that of n; and its value");
        Object[][] rows = {
            {13, 14, "dd0001"}, {14, 13, "dd0100"}, {270, 13, "ed000100"}, {13, 270, "de000001"}, {270, 271, "ee00010002"},
            {12, 269, "ce0000"}, {269, 12, "ec0000"},
        };
        for (Object[] row : rows) {
            Desk d = new Desk().begun(0, 1, 0).longOption((Integer) row[0], (Integer) row[1]);
            String head = (String) row[2];
            d.desk.write();
            CHECKS.same(row[0] + " of " + row[1], d.atHand(4, 4 + head.length() / 2 + 1), head + "88");
        }
    }

    private static void writtenPayload() {
        CHECKS.sentence("WRITTEN: then, if there is a payload, 255 and it");
        Desk d = new Desk().begun(0, 1, 0);
        CHECKS.same("none", written(d), "40010000");
        d.desk.payload(0, 0);
        CHECKS.same("none was put", written(d), "40010000");
        d.desk.payload(0, 1);
        CHECKS.same("one byte", written(d), "40010000ff00");
        d.option(1, "07");
        CHECKS.same("behind the options", written(d), "40010000" + "1107" + "ff00");
        Desk full = new Desk().begun(0, 1, 0).counted(400);
        CHECKS.same("400 bytes", full.desk.write(), 405);
        CHECKS.same("their first", full.atHand(4, 6), "ff00");
        CHECKS.same("their last", full.desk.hand(404), 143);
        CHECKS.same("nothing behind", full.desk.hand(405), -1);
    }

    private static void writeInPlace() {
        CHECKS.sentence("6: in place of the bytes at hand: how many these are");
        Desk d = new Desk().times(0xaa, 2000).begun(0, 1, 2);
        CHECKS.same("4 in place of 2000", d.desk.write(), 4);
        CHECKS.same("all of them", d.atHand(), "40010002");
        CHECKS.same("total(0)", d.desk.total(0), 4);
        d.desk.end(0);
        CHECKS.same("4 in place of none", d.desk.write(), 4);
        CHECKS.same("4 in place of the same", d.desk.write(), 4);
        CHECKS.same("all of them", d.atHand(), "40010002");
    }

    private static void writeStaysBegun() {
        CHECKS.sentence("6: (It stays begun.)");
        Desk d = new Desk();
        d.desk.begin(1, 2, 3, WORD, 8);
        d.option(300, "aabb").payload("xy");
        String before = d.message();
        d.desk.write();
        CHECKS.same("the message", d.message(), before);
        CHECKS.same("longer", d.desk.longer(0xcc, 1), 3);
        CHECKS.same("payload", d.desk.payload(0xdd, 1), 3);
        CHECKS.same("option", d.desk.option(1, 0, 0), 2);
        CHECKS.same("written again", written(d), "58020003" + WORD_BYTES + "10" + "e3001eaabbcc" + "ff7879dd");
    }

    /** 4 bytes of head and 4 options of 403 bytes: 384 are left. */
    private static Desk nearlyFull() {
        Desk d = new Desk().begun(0, 1, 0);
        for (int k = 0; k < 4; k++) {
            d.longOption(1, 400);
        }
        return d;
    }

    private static void writeLimit() {
        CHECKS.sentence("6: IllegalStateException: they would be more than 2000");
        Desk byPayload = nearlyFull().counted(383);
        CHECKS.same("2000 by a payload", byPayload.desk.write(), 2000);
        CHECKS.same("the last byte", byPayload.desk.hand(1999), 126);
        CHECKS.same("nothing behind", byPayload.desk.hand(2000), -1);
        byPayload.desk.payload(0x77, 1);
        CHECKS.illegalState("2001 by a payload", byPayload.desk::write);
        CHECKS.same("the bytes at hand stay", byPayload.desk.total(0), 2000);
        CHECKS.same("the last byte stays", byPayload.desk.hand(1999), 126);
        CHECKS.same("the message stays", byPayload.abouts(), "0 1 0 0 4 384");
        Desk byValue = nearlyFull().longOption(1, 381);
        CHECKS.same("2000 by a value", byValue.desk.write(), 2000);
        byValue.desk.longer(0, 1);
        CHECKS.illegalState("2001 by a value", byValue.desk::write);
        Desk byMark = nearlyFull().longOption(1, 379);
        CHECKS.same("1998", byMark.desk.write(), 1998);
        byMark.desk.payload(0, 1);
        CHECKS.same("2000 with 255 and one byte", byMark.desk.write(), 2000);
        byMark.desk.longer(0, 1);
        CHECKS.illegalState("2001 with 255 and one byte", byMark.desk::write);
        Desk byHead = nearlyFull().longOption(1, 380);
        CHECKS.same("1999", byHead.desk.write(), 1999);
        byHead.option(13, "");
        CHECKS.same("2000 by a short difference", byHead.desk.write(), 2000);
        Desk byMore = nearlyFull().longOption(1, 380).option(14, "");
        CHECKS.illegalState("2001 by a longer difference", byMore.desk::write);
        Desk most = nearlyFull();
        for (int k = 0; k < 4; k++) {
            most.longOption(65535, 400);
        }
        most.desk.end(0);
        CHECKS.illegalState("above 3000", most.desk::write);
        CHECKS.same("nothing at hand still", most.desk.total(0), 0);
    }

    private static void writeLimitOfHead() {
        CHECKS.sentence("6: more than 2000, with each byte of what is WRITTEN before the values counted");
        int[][] rows = {{0, 0}, {12, 0}, {13, 1}, {268, 1}, {269, 2}, {65535, 2}};
        for (int[] row : rows) {
            for (int token = 0; token <= 8; token += 8) {
                Desk d = new Desk();
                d.desk.begin(0, 1, 0, -1L, token);
                for (int k = 0; k < 4; k++) {
                    d.longOption(row[0], 400);
                }
                d.longOption(row[0], 381 - token - row[1]);
                CHECKS.same("2000 with options " + row[0] + ", a token of " + token, d.desk.write(), 2000);
                CHECKS.same("the last byte", d.desk.hand(1999), d.desk.byteOf(4, 381 - token - row[1] - 1));
                d.desk.longer(0, 1);
                CHECKS.illegalState("2001 with options " + row[0] + ", a token of " + token, d.desk::write);
            }
        }
    }

    private static void feedLength() {
        CHECKS.sentence("7: n is not 0 .. 8; n bytes come behind those at hand: how many these are");
        Desk d = new Desk();
        StringBuilder due = new StringBuilder();
        for (int n = 0; n <= 8; n++) {
            due.append(WORD_BYTES, 0, 2 * n);
            CHECKS.same("feed of " + n, d.desk.feed(WORD, n), due.length() / 2);
        }
        CHECKS.illegalArgument("9", () -> d.desk.feed(WORD, 9));
        CHECKS.illegalArgument("-1", () -> d.desk.feed(WORD, -1));
        for (int far : Checks.FAR) {
            CHECKS.illegalArgument("" + far, () -> d.desk.feed(WORD, far));
        }
        CHECKS.same("the bytes", d.atHand(), due.toString());
    }

    private static void feedLimit() {
        CHECKS.sentence("7: IllegalStateException: they would be more than 2000");
        Desk d = new Desk().times(1, 1992);
        CHECKS.same("1992 and 8", d.desk.feed(WORD, 8), 2000);
        CHECKS.same("2000 and 0", d.desk.feed(WORD, 0), 2000);
        for (int n = 1; n <= 8; n++) {
            int length = n;
            CHECKS.illegalState("2000 and " + n, () -> d.desk.feed(0, length));
        }
        CHECKS.same("how many there are", d.desk.total(0), 2000);
        CHECKS.same("the last stays", d.desk.hand(1999), 0xf8);
        d.desk.end(1993);
        CHECKS.illegalState("1993 and 8", () -> d.desk.feed(WORD, 8));
        CHECKS.same("nothing of that", d.desk.hand(1993), -1);
        CHECKS.same("1993 and 7", d.desk.feed(WORD, 7), 2000);
        d.begun(0, 1, 0).desk.write();
        CHECKS.same("written again there is room", d.desk.feed(WORD, 8), 12);
    }

    private static void endRange() {
        CHECKS.sentence("8: IllegalArgumentException: there are not so many, or n is below 0");
        Desk d = new Desk();
        d.desk.end(0);
        CHECKS.illegalArgument("1 of none", () -> d.desk.end(1));
        CHECKS.illegalArgument("-1 of none", () -> d.desk.end(-1));
        d.times(7, 2000);
        d.desk.end(2000);
        CHECKS.same("2000 of 2000", d.desk.total(0), 2000);
        CHECKS.illegalArgument("2001 of 2000", () -> d.desk.end(2001));
        CHECKS.illegalArgument("-1 of 2000", () -> d.desk.end(-1));
        for (int far : Checks.FAR) {
            CHECKS.illegalArgument(far + " of 2000", () -> d.desk.end(far));
        }
        CHECKS.same("they stay", d.desk.total(0), 2000);
        d.desk.end(1999);
        CHECKS.same("1999 of 2000", d.desk.total(0), 1999);
        CHECKS.illegalArgument("2000 of 1999", () -> d.desk.end(2000));
        d.desk.end(0);
        CHECKS.same("none of 1999", d.desk.total(0), 0);
        CHECKS.illegalArgument("1 of none again", () -> d.desk.end(1));
    }

    private static void endKeepsFirst() {
        CHECKS.sentence("8: The bytes at hand keep their first n");
        Desk d = new Desk().fed("0102030405");
        d.desk.end(3);
        CHECKS.same("3 of 5", d.atHand(), "010203");
        d.more("aa");
        CHECKS.same("one comes behind these", d.atHand(), "010203aa");
        d.desk.end(4);
        CHECKS.same("all of them", d.atHand(), "010203aa");
        d.desk.end(1);
        CHECKS.same("1 of 4", d.atHand(), "01");
        d.desk.end(0);
        CHECKS.same("none", d.atHand(), "");
    }

    private static void handIndex() {
        CHECKS.sentence("14: Byte i of those at hand; NONE behind them");
        Desk d = new Desk();
        CHECKS.same("0 of none", d.desk.hand(0), -1);
        d.fed("007f80ff");
        CHECKS.same("the bytes", d.desk.hand(0) + " " + d.desk.hand(1) + " " + d.desk.hand(2) + " " + d.desk.hand(3), "0 127 128 255");
        CHECKS.same("behind them", d.desk.hand(4), -1);
        d.desk.end(3);
        CHECKS.same("behind what end kept", d.desk.hand(3), -1);
        d.times(0xee, 1997);
        CHECKS.same("the last of 2000", d.desk.hand(1999), 0xee);
        for (int i : new int[] {2000, 2001, 65536, Integer.MAX_VALUE, -1, Integer.MIN_VALUE}) {
            CHECKS.same("hand(" + i + ")", d.desk.hand(i), -1);
        }
    }

    private static void fault1() {
        CHECKS.sentence("READING: 1 less than four bytes");
        for (String text : new String[] {"", "40", "4001", "400100", "480100", "ffffff", "000000"}) {
            CHECKS.same(text, new Desk().read(text), -1);
        }
        CHECKS.same("four bytes", new Desk().read("40010000"), 0);
    }

    private static void fault2() {
        CHECKS.sentence("READING: 2 the two highest bits are not 0 1");
        for (int first = 0; first < 256; first += 16) {
            CHECKS.same("a first byte " + first, new Desk().read(Desk.hex(first) + "010000"), first >= 64 && first < 128 ? 0 : -2);
            CHECKS.same("a first byte " + (first + 15), new Desk().read(Desk.hex(first + 15) + "010000"),
                first >= 64 && first < 128 ? -3 : -2);
        }
    }

    private static void fault3() {
        CHECKS.sentence("READING: 3 the token is longer than 8, or not all there");
        for (int n = 0; n <= 15; n++) {
            String head = Desk.hex(64 + n) + "010000";
            CHECKS.same("all of " + n, new Desk().read(head + "ff".repeat(n)), n <= 8 ? 0 : -3);
            CHECKS.same("and a payload", new Desk().read(head + "00".repeat(n) + "ff07"), n <= 8 ? 0 : -3);
            if (n > 0) {
                CHECKS.same("one less than " + n, new Desk().read(head + "00".repeat(n - 1)), -3);
                CHECKS.same("none of " + n, new Desk().read(head), -3);
            }
        }
    }

    private static void fault4Fifteen() {
        CHECKS.sentence("READING: 4 an option's d or n is 15 (but 255 alone begins the payload)");
        for (int other = 0; other <= 14; other++) {
            String enough = "00".repeat(300);
            CHECKS.same("d 15, n " + other, new Desk().read(GET + Desk.hex(0xf0 + other) + enough), -4);
            CHECKS.same("d " + other + ", n 15", new Desk().read(GET + Desk.hex(16 * other + 15) + enough), -4);
            CHECKS.same("d 15, n " + other + " behind an option", new Desk().read(GET + "10" + Desk.hex(0xf0 + other) + enough), -4);
        }
        CHECKS.same("255", new Desk().read(GET + "ff00"), 0);
        CHECKS.same("255 behind an option", new Desk().read(GET + "10ff00"), 1);
        CHECKS.same("255 as a value", new Desk().read(GET + "11ff"), 1);
        CHECKS.same("255 as a byte more of d", new Desk().read(GET + "d0ff"), 1);
        CHECKS.same("254", new Desk().read(GET + "fe" + "00".repeat(300)), -4);
    }

    /** An option of those first bytes, with a value of n bytes; all of it, and each shorter beginning of it. */
    private static void beginnings(String firstBytes, int n) {
        Desk d = new Desk().fed(GET + firstBytes).times(0x99, n);
        int all = d.desk.total(0);
        CHECKS.same(firstBytes + " and all of " + n, d.desk.read(), 1);
        CHECKS.same("how long it is", d.desk.optionAt(0, 1), n);
        int shortest = Math.max(5, all - 40);
        for (int kept = all - 1; kept >= shortest; kept--) {
            d.desk.end(kept);
            CHECKS.same(firstBytes + " and " + (all - kept) + " less", d.desk.read(), -4);
        }
        d.desk.end(4);
        CHECKS.same("without it", d.desk.read(), 0);
    }

    private static void fault4NotAllThere() {
        CHECKS.sentence("READING: 4 or its bytes are not all there");
        for (int n = 0; n <= 12; n++) {
            beginnings(Desk.hex(n), n);
            beginnings(Desk.hex(0xc0 + n), n);
            beginnings(Desk.hex(0xd0 + n) + "ff", n);
            beginnings(Desk.hex(0xe0 + n) + "fef2", n);
        }
        for (String d : new String[] {"0", "c", "d", "e"}) {
            String more = d.equals("d") ? "00" : d.equals("e") ? "0000" : "";
            beginnings(d + "d" + more + "00", 13);
            beginnings(d + "d" + more + "ff", 268);
            beginnings(d + "e" + more + "0000", 269);
            beginnings(d + "e" + more + "0083", 400);
        }
        CHECKS.same("255 is no end of a value", new Desk().read(GET + "03ff07"), -4);
    }

    private static void fault4Number() {
        CHECKS.sentence("READING: 4 or its number is above 65535");
        Object[][] rows = {
            {"e0fef2", 1}, {"e0fef3", -4}, {"e0ffff", -4}, {"10 e0fef1", 2}, {"10 e0fef2", -4}, {"e0fef2 00", 2}, {"e0fef2 10", -4},
            {"e0fee6 c0", 2}, {"e0fee7 c0", -4}, {"e0fde6 d0ff", 2}, {"e0fde7 d0ff", -4}, {"e0fde6 d0ff 00 00", 4},
            {"e0fde6 d0ff 10", -4}, {"e07ef2 e07ef3", 2}, {"e07ef3 e07ef3", -4}, {"e0fef3 ff00", -4}, {"e0fef2 ff00", 1},
            {"e0ffff e0ffff", -4}, {"e0fef2 e0fef3", -4},
        };
        for (Object[] row : rows) {
            CHECKS.same((String) row[0], new Desk().read(GET + row[0]), (Integer) row[1]);
        }
        Desk d = new Desk();
        d.read(GET + "e0fde6 d0ff");
        CHECKS.same("the highest number", d.desk.optionAt(1, 0), 65535);
        CHECKS.same("one before it", d.desk.optionAt(0, 0), 65267);
    }

    private static void fault4Value() {
        CHECKS.sentence("READING: 4 or its value longer than 400");
        CHECKS.same("400", new Desk().fed(GET + "0e0083").times(1, 400).desk.read(), 1);
        CHECKS.same("401", new Desk().fed(GET + "0e0084").times(1, 401).desk.read(), -4);
        CHECKS.same("524", new Desk().fed(GET + "0e00ff").times(1, 524).desk.read(), -4);
        CHECKS.same("525, with 400 there", new Desk().fed(GET + "0e0100").times(1, 400).desk.read(), -4);
        CHECKS.same("1993", new Desk().fed(GET + "0e06bc").times(1, 1993).desk.read(), -4);
        CHECKS.same("65804", new Desk().fed(GET + "0effff").times(1, 400).desk.read(), -4);
        CHECKS.same("400 four times, 377 and 5 more", new Desk().fed(GET + ("0e0083" + "07".repeat(400)).repeat(4) + "0e006c")
            .times(1, 377).more("03010203").desk.read(), 6);
    }

    private static void fault5() {
        CHECKS.sentence("READING: 5 no payload behind 255, or one longer than 400");
        CHECKS.same("none", new Desk().read(GET + "ff"), -5);
        CHECKS.same("none behind a token", new Desk().read("42010000 ffff ff"), -5);
        CHECKS.same("none behind an option", new Desk().read(GET + "11ff ff"), -5);
        CHECKS.same("one byte", new Desk().read(GET + "ff00"), 0);
        CHECKS.same("one byte 255", new Desk().read(GET + "ffff"), 0);
        Desk d = new Desk().fed(GET + "ff").times(0x55, 400);
        CHECKS.same("400", d.desk.read(), 0);
        CHECKS.same("how long it is", d.desk.about(5), 400);
        CHECKS.same("its last byte", d.desk.byteOf(-2, 399), 0x55);
        CHECKS.same("401", d.more("00").desk.read(), -5);
        CHECKS.same("all that there is room for", d.times(0, 1594).desk.read(), -5);
        CHECKS.same("401 behind options", new Desk().fed(GET + "1010 ff").times(0, 401).desk.read(), -5);
        CHECKS.same("400 behind options", new Desk().fed(GET + "1010 ff").times(0, 400).desk.read(), 2);
    }

    private static void fault6() {
        CHECKS.sentence("READING: 6 the code is 0, and there is more than four bytes (found behind all else)");
        for (int type = 0; type <= 3; type++) {
            String first = Desk.hex(64 + 16 * type);
            CHECKS.same("four bytes", new Desk().read(first + "00abcd"), 0);
            CHECKS.same("a token", new Desk().read(Desk.hex(65 + 16 * type) + "00abcd 00"), -6);
            CHECKS.same("an option", new Desk().read(first + "00abcd 00"), -6);
            CHECKS.same("a payload", new Desk().read(first + "00abcd ff00"), -6);
        }
        CHECKS.same("a token of 8", new Desk().read("48000000 0102030405060708"), -6);
        CHECKS.same("code 1 with a token", new Desk().read("41010000 00"), 0);
        CHECKS.same("behind 3: too long", new Desk().read("49000000" + "00".repeat(9)), -3);
        CHECKS.same("behind 3: not there", new Desk().read("42000000 00"), -3);
        CHECKS.same("behind 4", new Desk().read("40000000 00 f0"), -4);
        CHECKS.same("behind 5: none", new Desk().read("40000000 00 ff"), -5);
        CHECKS.same("behind 5: too long", new Desk().fed("40000000 ff").times(0, 401).desk.read(), -5);
        CHECKS.same("400", new Desk().fed("40000000 ff").times(0, 400).desk.read(), -6);
    }

    private static void firstFault() {
        CHECKS.sentence("READING, the first FAULT as the bytes are gone through");
        Object[][] rows = {
            {"0f0000", -1}, {"8f", -1}, {"490000", -1}, {"0f000000 ff", -2}, {"8f010000", -2}, {"c9000000 f0", -2}, {"ff000000", -2},
            {"4f010000 f0", -3}, {"49010000 ff", -3}, {"42000000 ff", -3}, {"40010000 f0 ff", -4}, {"40010000 01 ", -4},
            {"40010000 e0fef3 ff", -4}, {"40000000 02 ff", -4}, {"40000000 ff", -5}, {"40000000 10 ff", -5}, {"40000000 10 ff 00", -6},
        };
        for (Object[] row : rows) {
            CHECKS.same((String) row[0], new Desk().read((String) row[0]), (Integer) row[1]);
        }
    }

    private static void noFault() {
        CHECKS.sentence("READING: (told in more bytes than it needs is no fault.)");
        Object[][] rows = {
            {"d000", "13="}, {"e00000", "269="}, {"0d00" + "07".repeat(13), "0=" + "07".repeat(13)},
            {"dd0000" + "07".repeat(13), "13=" + "07".repeat(13)}, {"c0 d000", "12= 25="},
        };
        for (Object[] row : rows) {
            Desk d = new Desk();
            CHECKS.same((String) row[0], d.read(GET + row[0]) > 0 ? 1 : 0, 1);
            CHECKS.same("that is", d.message(), "0 1 0 t " + row[1] + " p");
        }
        CHECKS.same("nor is a whole number with bytes 0 before it", new Desk().fed("40030000 d40a 00000006").desk.serve(0), 65);
    }

    private static void readBecomes() {
        CHECKS.sentence("9: the message begun becomes that");
        Desk d = new Desk();
        d.desk.begin(3, 255, 65535, WORD, 8);
        for (int k = 0; k < 20; k++) {
            d.desk.option(k, -1, 8);
        }
        d.counted(100);
        CHECKS.same("the least", d.read("40000000"), 0);
        CHECKS.same("all of it", d.message(), "0 0 0 t p");
        CHECKS.same("the highest head", d.read("78ffffff 0102030405060708"), 0);
        CHECKS.same("all of it", d.message(), "3 255 65535 t0102030405060708 p");
        CHECKS.same("all parts", d.read("52450102 0a0b 00 d1fa0c 01ff ff0d"), 3);
        CHECKS.same("all of it", d.message(), "1 69 258 t0a0b 0= 263=0c 263=ff p0d");
        CHECKS.same("the bytes at hand stay", d.atHand(), "524501020a0b00d1fa0c01ffff0d");
        CHECKS.same("the same again", d.desk.read(), 3);
        CHECKS.same("all of it", d.message(), "1 69 258 t0a0b 0= 263=0c 263=ff p0d");
        CHECKS.same("nothing is served", d.totals(), "0 0 0 0 0");
    }

    private static void readCount() {
        CHECKS.sentence("9: how many options it has");
        Desk d = new Desk().fed(GET);
        for (int k = 1; k <= 20; k++) {
            CHECKS.same("option " + k, d.more("10").desk.read(), k);
        }
        CHECKS.same("the first", d.desk.optionAt(0, 0), 1);
        CHECKS.same("the last", d.desk.optionAt(19, 0), 20);
        d.more("ff00");
        CHECKS.same("and a payload", d.desk.read(), 20);
    }

    private static void readFaultLeaves() {
        CHECKS.sentence("9: or the FAULT, below 0 (it stays as it was)");
        String[] wrong = {
            "", "7fffff", "bfffffff", "7fffffff", "78ffffff 01020304050607", "78ffffff 0102030405060708 11aa f1",
            "78ffffff 0102030405060708 11aa 02bb", "78ffffff 0102030405060708 11aa ff", "7800ffff 0102030405060708 11aa ffbb",
        };
        int[] due = {-1, -1, -2, -3, -3, -4, -4, -5, -6};
        Desk d = new Desk();
        d.desk.begin(1, 2, 3, 9L, 1);
        d.option(5, "aa").payload("x");
        for (int i = 0; i < wrong.length; i++) {
            CHECKS.same(wrong[i], d.read(wrong[i]), due[i]);
            CHECKS.same("the message", d.message(), "1 2 3 t09 5=aa p78");
            CHECKS.same("the bytes at hand", d.desk.total(0), wrong[i].replace(" ", "").length() / 2);
        }
        CHECKS.same("the option put latest", d.desk.longer(0xbb, 1), 2);
        CHECKS.same("it", d.message(), "1 2 3 t09 5=aabb p78");
        Desk none = new Desk();
        CHECKS.same("no option was put", none.read("40"), -1);
        CHECKS.illegalState("none is put by a fault", () -> none.desk.longer(0, 0));
    }

    private static void readTooMany() {
        CHECKS.sentence("9: UnsupportedOperationException: it has no FAULT, and would have more than 20 options");
        Desk d = new Desk().begun(1, 2, 3).option(5, "aa").payload("x");
        d.fed(GET).times(0x10, 20);
        CHECKS.same("20", d.desk.read(), 20);
        d.begun(1, 2, 3).option(5, "aa").payload("x");
        d.more("10");
        CHECKS.unsupported("21", d.desk::read);
        CHECKS.same("the message stays", d.message(), "1 2 3 t 5=aa p78");
        CHECKS.same("the bytes at hand stay", d.desk.total(0), 25);
        CHECKS.same("the option put latest stays", d.desk.longer(0xbb, 1), 2);
        CHECKS.same("21 and fault 4", d.more("f0").desk.read(), -4);
        d.desk.end(25);
        CHECKS.same("21 and fault 4 by a number", d.more("e0fef2").desk.read(), -4);
        d.desk.end(25);
        CHECKS.same("21 and fault 5", d.more("ff").desk.read(), -5);
        d.more("00");
        CHECKS.unsupported("21 and a payload", d.desk::read);
        CHECKS.same("21 and fault 5 by a long one", d.times(0, 400).desk.read(), -5);
        CHECKS.same("21 and fault 6", d.fed("40000000").times(0x10, 21).desk.read(), -6);
        d.fed("48ff0000 0102030405060708").times(0, 21);
        CHECKS.unsupported("21 behind a token", d.desk::read);
        CHECKS.same("the message stays", d.message(), "1 2 3 t 5=aabb p78");
        Desk most = new Desk().fed(GET).times(0, 1996);
        CHECKS.unsupported("1996", most.desk::read);
        most.desk.end(24);
        CHECKS.same("20 of these", most.desk.read(), 20);
    }

    private static void writtenIsRead() {
        CHECKS.sentence("WRITTEN and READING: what was written is read");
        Desk d = new Desk();
        d.desk.begin(3, 255, 65535, WORD, 8);
        d.option(0, "").longOption(13, 13).longOption(281, 12).longOption(65535, 14).payload("p");
        String before = d.message();
        CHECKS.same("write", d.desk.write(), 4 + 8 + 1 + 3 + 13 + 2 + 12 + 4 + 14 + 2);
        d.begun(0, 1, 2);
        CHECKS.same("options", d.desk.read(), 4);
        CHECKS.same("the message", d.message(), before);
        String bytes = d.atHand();
        d.desk.write();
        CHECKS.same("what was read is written", d.atHand(), bytes);
    }
}
