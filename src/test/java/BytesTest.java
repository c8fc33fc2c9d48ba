/** Promises 6 to 9 and 14: messages written and read, and the bytes at hand. */
public final class BytesTest {
    private static final Checks CHECKS = new Checks();

    public static void main(String[] args) {
        written();
        writtenForms();
        writtenLimit();
        feed();
        feedLimit();
        end();
        hand();
        readAll();
        readForms();
        faults();
        faultOrder();
        faultLeavesAll();
        lengthLimits();
        tooManyOptions();
        CHECKS.finish();
    }

    private static void written() {
        Desk d = new Desk();
        d.desk.begin(1, 69, 0x1234, 0x060708L, 3);
        d.option(12, "aabb").option(1, "").payload("hi");
        CHECKS.same("write", d.desk.write(), 14);
        CHECKS.same("bytes", d.atHand(), "53451234" + "080706" + "10" + "b2aabb" + "ff6869");
        CHECKS.same("it stays begun", d.message(), "1 69 4660 t080706 1= 12=aabb p6869");
        CHECKS.same("written again, in place of the bytes", d.desk.write(), 14);
        d.desk.begin(0, 0, 0xff01, 0, 0);
        CHECKS.same("a shorter one", d.desk.write(), 4);
        CHECKS.same("its bytes", d.atHand(), "4000ff01");
        d.desk.begin(3, 0, 0, -1L, 8);
        d.desk.write();
        CHECKS.same("an empty one with a token is written as it is", d.atHand(), "78000000ffffffffffffffff");
    }

    private static void writtenForms() {
        String[][] differences = {
            {"12", "c0"}, {"13", "d000"}, {"14", "d001"}, {"268", "d0ff"}, {"269", "e00000"}, {"270", "e00001"},
            {"65535", "e0fef2"},
        };
        for (String[] row : differences) {
            Desk d = new Desk().begun(0, 1, 0).option(Integer.parseInt(row[0]), "");
            d.desk.write();
            CHECKS.same("option " + row[0], d.atHand(), "40010000" + row[1]);
        }
        Desk next = new Desk().begun(0, 1, 0).option(1000, "").option(1013, "").option(1000, "01");
        next.desk.write();
        CHECKS.same("differences of later ones", next.atHand(), "40010000" + "e002db" + "0101" + "d000");
        String[][] lengths = {
            {"12", "1c"}, {"13", "1d00"}, {"268", "1dff"}, {"269", "1e0000"}, {"400", "1e0083"},
        };
        for (String[] row : lengths) {
            int n = Integer.parseInt(row[0]);
            Desk d = new Desk().begun(0, 1, 0).longOption(1, n);
            CHECKS.same("write with a value of " + n, d.desk.write(), 4 + row[1].length() / 2 + n);
            CHECKS.same("its head", d.atHand().substring(8, 8 + row[1].length()), row[1]);
        }
        Desk both = new Desk().begun(0, 1, 0).longOption(300, 20);
        both.desk.write();
        CHECKS.same("that of d before that of n", both.atHand().substring(8, 16), "ed001f07");
    }

    /** 4 bytes of head, 4 options of 403 bytes: 384 are left. */
    private static Desk nearlyFull() {
        Desk d = new Desk().begun(0, 1, 0);
        for (int k = 0; k < 4; k++) {
            d.longOption(1, 400);
        }
        return d;
    }

    private static void writtenLimit() {
        Desk d = nearlyFull().counted(383);
        CHECKS.same("write of 2000", d.desk.write(), 2000);
        CHECKS.same("read again", d.desk.read(), 4);
        d.desk.end(3);
        d.desk.payload(0, 1);
        CHECKS.illegalState("write of 2001", d.desk::write);
        CHECKS.same("the bytes at hand stay", d.atHand(), "400100");
        CHECKS.same("the message stays", d.desk.about(5), 384);
        Desk options = nearlyFull().longOption(1, 381);
        CHECKS.same("write of options alone", options.desk.write(), 4 + 4 * 403 + 3 + 381);
        options.desk.longer(0, 1);
        CHECKS.illegalState("write of 2001 by options", options.desk::write);
    }

    private static void feed() {
        Desk d = new Desk();
        CHECKS.same("feed of none", d.desk.feed(-1L, 0), 0);
        CHECKS.same("feed", d.desk.feed(0x0403ff01L, 3), 3);
        CHECKS.same("feed of eight", d.desk.feed(0x8877665544332211L, 8), 11);
        CHECKS.same("bytes", d.atHand(), "01ff031122334455667788");
        CHECKS.illegalArgument("feed(0, -1)", () -> d.desk.feed(0, -1));
        CHECKS.illegalArgument("feed(0, 9)", () -> d.desk.feed(0, 9));
        CHECKS.same("nothing more", d.desk.total(0), 11);
        d.begun(0, 1, 2).desk.write();
        CHECKS.same("behind what was written", d.desk.feed(0xaa, 1), 5);
        CHECKS.same("those bytes", d.atHand(), "40010002aa");
        CHECKS.same("the message is the same", d.message(), "0 1 2 t p");
    }

    private static void feedLimit() {
        Desk d = new Desk().times(7, 1999);
        CHECKS.illegalState("feed of 2001", () -> d.desk.feed(0, 2));
        CHECKS.same("feed of 2000", d.desk.feed(5, 1), 2000);
        CHECKS.same("feed of none more", d.desk.feed(5, 0), 2000);
        CHECKS.illegalState("feed of one more", () -> d.desk.feed(0, 1));
        CHECKS.illegalArgument("a wrong feed at 2000", () -> d.desk.feed(0, 9));
        CHECKS.same("the last", d.desk.hand(1999), 5);
        CHECKS.same("behind it", d.desk.hand(2000), -1);
    }

    private static void end() {
        Desk d = new Desk().fed("0102030405");
        CHECKS.illegalArgument("end(6)", () -> d.desk.end(6));
        CHECKS.illegalArgument("end(-1)", () -> d.desk.end(-1));
        d.desk.end(5);
        CHECKS.same("end at all", d.atHand(), "0102030405");
        d.desk.end(2);
        CHECKS.same("end(2)", d.atHand(), "0102");
        CHECKS.illegalArgument("end(3) then", () -> d.desk.end(3));
        d.desk.end(0);
        CHECKS.same("end(0)", d.desk.total(0), 0);
        CHECKS.same("feed behind", d.desk.feed(9, 1), 1);
    }

    private static void hand() {
        Desk d = new Desk().fed("80ff");
        CHECKS.same("hand(0)", d.desk.hand(0), 128);
        CHECKS.same("hand(1)", d.desk.hand(1), 255);
        for (int i : new int[] {2, 1999, 2000, Integer.MAX_VALUE, -1, Integer.MIN_VALUE}) {
            CHECKS.same("hand(" + i + ")", d.desk.hand(i), -1);
        }
        d.desk.end(1);
        CHECKS.same("hand(1) behind the end", d.desk.hand(1), -1);
    }

    private static void readAll() {
        Desk d = new Desk();
        CHECKS.same("read", d.read("53451234 080706 10 b2aabb ff6869"), 2);
        CHECKS.same("message", d.message(), "1 69 4660 t080706 1= 12=aabb p6869");
        CHECKS.same("the bytes stay", d.desk.total(0), 14);
        CHECKS.same("an empty one", d.read("70000007"), 0);
        CHECKS.same("is all there is", d.message(), "3 0 7 t p");
        CHECKS.same("a token of 8", d.read("6801ffff 0102030405060708"), 0);
        CHECKS.same("that message", d.message(), "2 1 65535 t0102030405060708 p");
        CHECKS.same("a payload with 255 in it", d.read("40010000 ffff"), 0);
        CHECKS.same("that payload", d.message(), "0 1 0 t pff");
        CHECKS.same("a token with 255 in it", d.read("42010000 ffff"), 0);
        CHECKS.same("that token", d.message(), "0 1 0 tffff p");
        CHECKS.same("options of number 0 and equal ones", d.read("40010000 00 01aa 10 00"), 4);
        CHECKS.same("those options", d.message(), "0 1 0 t 0= 0=aa 1= 1= p");
    }

    private static void readForms() {
        Desk d = new Desk();
        CHECKS.same("differences", d.read("40010000 c0 d000 e00000"), 3);
        CHECKS.same("numbers", d.message(), "0 1 0 t 12= 25= 294= p");
        CHECKS.same("a highest number", d.read("40010000 e0fef2"), 1);
        CHECKS.same("it", d.message(), "0 1 0 t 65535= p");
        CHECKS.same("nothing more than that, twice", d.read("40010000 e0fef2 00"), 2);
        CHECKS.same("a length of 13", d.read("40010000 dd0100 00112233445566778899aabbcc"), 1);
        CHECKS.same("it", d.message(), "0 1 0 t 14=00112233445566778899aabbcc p");
        CHECKS.same("both long", d.read("40010000 ee00000001"), -4);
        CHECKS.same("all but one there", d.times(9, 269).desk.read(), -4);
        CHECKS.same("all there now", d.times(9, 1).desk.read(), 1);
        CHECKS.same("its number", d.desk.optionAt(0, 0), 269);
        CHECKS.same("its length", d.desk.optionAt(0, 1), 270);
    }

    private static void faults() {
        String[][] rows = {
            {"", "-1"}, {"40", "-1"}, {"400100", "-1"}, {"ffffff", "-1"},
            {"00010000", "-2"}, {"80010000", "-2"}, {"c0010000", "-2"}, {"3f010000", "-2"}, {"ff010000", "-2"},
            {"49010000 010203040506070809", "-3"}, {"4f010000", "-3"}, {"41010000", "-3"},
            {"48010000 01020304050607", "-3"}, {"4901000001", "-3"},
            {"40010000 f0", "-4"}, {"40010000 0f", "-4"}, {"40010000 fe", "-4"}, {"40010000 ef", "-4"},
            {"40010000 f0ff00", "-4"}, {"40010000 df00", "-4"}, {"40010000 fd00", "-4"},
            {"40010000 01", "-4"}, {"40010000 d0", "-4"}, {"40010000 e000", "-4"}, {"40010000 e0", "-4"},
            {"40010000 0d", "-4"}, {"40010000 0e00", "-4"}, {"40010000 dd00", "-4"}, {"40010000 d100", "-4"},
            {"40010000 0500000000", "-4"}, {"40010000 e0fef3", "-4"}, {"40010000 e0ffff", "-4"},
            {"40010000 e0fef2 10", "-4"}, {"40010000 10 e0fef2", "-4"}, {"40010000 e0fef200e0fef2", "-4"},
            {"40010000 ff", "-5"}, {"40010000 1101 ff", "-5"}, {"41010000 ff ff", "-5"},
            {"40000000 00", "-6"}, {"41000000 00", "-6"}, {"40000000 ff00", "-6"}, {"58000000 0102030405060708", "-6"},
        };
        for (String[] row : rows) {
            CHECKS.same("read of " + row[0], new Desk().read(row[0]), Integer.parseInt(row[1]));
        }
    }

    /** The first fault on the way through the bytes is the one told. */
    private static void faultOrder() {
        String[][] rows = {
            {"0f0000", "-1"}, {"0f000000", "-2"}, {"4f000000 f0", "-3"}, {"40000000 f0", "-4"},
            {"40010000 01", "-4"}, {"40010000 f0 ff", "-4"}, {"40010000 02ff", "-4"}, {"40000000 ff", "-5"},
            {"41000000 f0 ff", "-5"}, {"40010000 00 ff", "-5"}, {"40000000 f1", "-4"},
        };
        for (String[] row : rows) {
            CHECKS.same("first fault of " + row[0], new Desk().read(row[0]), Integer.parseInt(row[1]));
        }
    }

    private static void faultLeavesAll() {
        Desk d = new Desk();
        d.desk.begin(1, 2, 3, 9L, 1);
        d.option(5, "aa").payload("x");
        String before = d.message();
        String[] wrong = {"4f", "00010000", "4f010000", "63ffffff 010203 1101 f0", "63ffffff 010203 1101 ff", "60000000 00"};
        for (String text : wrong) {
            CHECKS.same("a fault in " + text, d.read(text) < 0 ? 1 : 0, 1);
            CHECKS.same("leaves the message", d.message(), before);
            CHECKS.same("and the bytes", d.atHand(), text.replace(" ", ""));
        }
        CHECKS.same("and the latest option", d.desk.longer(0xbb, 1), 2);
    }

    private static void lengthLimits() {
        CHECKS.same("a value of 400", new Desk().fed("40010000 0e0083").times(1, 400).desk.read(), 1);
        CHECKS.same("a value of 401", new Desk().fed("40010000 0e0084").times(1, 401).desk.read(), -4);
        Desk full = new Desk().fed("40010000 ff").times(255, 400);
        CHECKS.same("a payload of 400", full.desk.read(), 0);
        CHECKS.same("it", full.desk.about(5), 400);
        CHECKS.same("a payload of 401", full.times(255, 1).desk.read(), -5);
        CHECKS.same("one of 1995", new Desk().fed("40010000 ff").times(255, 1995).desk.read(), -5);
    }

    private static void tooManyOptions() {
        Desk d = new Desk();
        d.desk.begin(1, 2, 3, 9L, 1);
        d.option(5, "aa").payload("x");
        String before = d.message();
        d.fed("40010000").times(0x10, 21);
        CHECKS.unsupported("read of 21 options", d.desk::read);
        CHECKS.same("changes nothing", d.message(), before);
        CHECKS.same("the bytes stay", d.desk.total(0), 25);
        CHECKS.same("the latest option stays", d.desk.longer(0xbb, 1), 2);
        CHECKS.same("a fault comes first: 4", d.more("01").desk.read(), -4);
        d.desk.end(25);
        CHECKS.same("a fault comes first: 5", d.more("ff").desk.read(), -5);
        d.more("00");
        CHECKS.unsupported("and a payload", d.desk::read);
        CHECKS.same("a fault comes first: 6", d.fed("40000000").times(0, 21).desk.read(), -6);
        Desk most = new Desk().fed("40010000").times(0, 1996);
        CHECKS.unsupported("read of 1996 options", most.desk::read);
        CHECKS.same("20 options", d.fed("40010000").times(0x10, 20).desk.read(), 20);
        CHECKS.illegalState("a 21st", () -> d.desk.option(1, 0, 0));
    }
}
