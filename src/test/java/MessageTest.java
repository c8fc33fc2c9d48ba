/** Promises 1 to 5 and 10 to 12: the message begun, as it is put together and looked at. */
public final class MessageTest {
    private static final Checks CHECKS = new Checks();

    public static void main(String[] args) {
        newObject();
        begin();
        beginWrong();
        option();
        optionWrong();
        longer();
        longerWrong();
        payload();
        about();
        byteOf();
        optionAt();
        CHECKS.finish();
    }

    private static void newObject() {
        Desk d = new Desk();
        CHECKS.same("a new message", d.message(), "0 0 0 t p");
        CHECKS.same("a new object's totals", d.totals(), "0 0 0 0 0");
        CHECKS.same("bytes at hand", d.desk.total(0), 0);
        CHECKS.same("hand(0)", d.desk.hand(0), -1);
        CHECKS.illegalArgument("resource(0, 0)", () -> d.desk.resource(0, 0));
        CHECKS.same("it is written as", d.desk.write(), 4);
        CHECKS.same("bytes", d.atHand(), "40000000");
    }

    private static void begin() {
        Desk d = new Desk();
        d.desk.begin(3, 255, 65535, 0x0102030405060708L, 8);
        CHECKS.same("begin, highest", d.message(), "3 255 65535 t0807060504030201 p");
        d.option(7, "aa").payload("x");
        d.desk.begin(1, 2, 3, 0x00ff_ffffL, 2);
        CHECKS.same("begin clears", d.message(), "1 2 3 tffff p");
        d.desk.begin(0, 0, 0, -1L, 0);
        CHECKS.same("begin, lowest", d.message(), "0 0 0 t p");
    }

    private static void beginWrong() {
        Desk d = new Desk();
        d.begun(1, 2, 3).option(7, "aa").payload("x");
        int[][] wrong = {
            {-1, 0, 0, 0}, {4, 0, 0, 0}, {0, -1, 0, 0}, {0, 256, 0, 0}, {0, 0, -1, 0}, {0, 0, 65536, 0},
            {0, 0, 0, -1}, {0, 0, 0, 9}, {Integer.MIN_VALUE, 0, 0, 0}, {0, 0, 0, Integer.MAX_VALUE},
        };
        for (int[] row : wrong) {
            CHECKS.illegalArgument("begin of " + java.util.Arrays.toString(row),
                () -> d.desk.begin(row[0], row[1], row[2], 5L, row[3]));
        }
        CHECKS.same("a begin that throws changes nothing", d.message(), "1 2 3 t 7=aa p78");
        CHECKS.same("longer goes on", d.desk.longer(0xbb, 1), 2);
    }

    private static void option() {
        Desk d = new Desk();
        CHECKS.same("first option", d.desk.option(300, 0x0201L, 2), 1);
        CHECKS.same("second option", d.desk.option(11, 0x0a, 1), 2);
        CHECKS.same("third option", d.desk.option(11, 0x0b, 1), 3);
        CHECKS.same("fourth option", d.desk.option(65535, -1L, 8), 4);
        CHECKS.same("fifth option", d.desk.option(0, -1L, 0), 5);
        CHECKS.same("sixth option", d.desk.option(11, 0x0c, 1), 6);
        CHECKS.same("options in order", d.message(),
            "0 0 0 t 0= 11=0a 11=0b 11=0c 300=0102 65535=ffffffffffffffff p");
    }

    private static void optionWrong() {
        Desk d = new Desk();
        CHECKS.illegalArgument("option(-1, 0, 0)", () -> d.desk.option(-1, 0, 0));
        CHECKS.illegalArgument("option(65536, 0, 0)", () -> d.desk.option(65536, 0, 0));
        CHECKS.illegalArgument("option(1, 0, -1)", () -> d.desk.option(1, 0, -1));
        CHECKS.illegalArgument("option(1, 0, 9)", () -> d.desk.option(1, 0, 9));
        CHECKS.same("none was put", d.desk.about(4), 0);
        for (int k = 1; k <= 20; k++) {
            CHECKS.same("option " + k, d.desk.option(40 - k, k, 1), k);
        }
        String before = d.message();
        CHECKS.illegalState("a 21st option", () -> d.desk.option(1, 0, 0));
        CHECKS.illegalArgument("a wrong 21st option", () -> d.desk.option(1, 0, 9));
        CHECKS.illegalArgument("a 21st option of a wrong number", () -> d.desk.option(65536, 0, 0));
        CHECKS.same("an option that throws changes nothing", d.message(), before);
        CHECKS.same("the latest is the 20th still", d.desk.longer(9, 1), 2);
        CHECKS.same("its value", d.part(0), "1409");
    }

    private static void longer() {
        Desk d = new Desk();
        d.desk.option(9, 0x01, 1);
        d.desk.option(3, 0x02, 1);
        CHECKS.same("longer", d.desk.longer(0x0504030201L, 3), 4);
        CHECKS.same("longer by nothing", d.desk.longer(-1L, 0), 4);
        CHECKS.same("the latest is longer", d.message(), "0 0 0 t 3=02010203 9=01 p");
        d.desk.option(3, 0x07, 1);
        d.desk.longer(0x08, 1);
        CHECKS.same("behind an equal one", d.message(), "0 0 0 t 3=02010203 3=0708 9=01 p");
        Desk full = new Desk().longOption(5, 400);
        CHECKS.same("as long as can be", full.desk.optionAt(0, 1), 400);
        CHECKS.same("longer by nothing at 400", full.desk.longer(0, 0), 400);
        CHECKS.illegalState("longer than 400", () -> full.desk.longer(0, 1));
        Desk near = new Desk().longOption(5, 399);
        CHECKS.illegalState("longer than 400 by two", () -> near.desk.longer(0, 2));
        CHECKS.same("up to 400", near.desk.longer(0xee, 1), 400);
        CHECKS.same("its last byte", near.desk.byteOf(0, 399), 0xee);
    }

    private static void longerWrong() {
        Desk d = new Desk();
        CHECKS.illegalState("longer on a new object", () -> d.desk.longer(0, 0));
        CHECKS.illegalArgument("wrong longer on a new object", () -> d.desk.longer(0, 9));
        d.option(2, "aa");
        CHECKS.illegalArgument("longer(0, -1)", () -> d.desk.longer(0, -1));
        CHECKS.illegalArgument("longer(0, 9)", () -> d.desk.longer(0, 9));
        CHECKS.same("nothing changed", d.message(), "0 0 0 t 2=aa p");
        d.desk.begin(0, 1, 0, 0, 0);
        CHECKS.illegalState("longer behind begin", () -> d.desk.longer(0, 1));
        d.option(2, "aa").desk.write();
        CHECKS.same("longer behind write", d.desk.longer(0xbb, 1), 2);
        d.desk.read();
        CHECKS.illegalState("longer behind read", () -> d.desk.longer(0, 1));
        d.option(1, "cc");
        CHECKS.same("an option behind read", d.desk.longer(0xdd, 1), 2);
        CHECKS.same("in its place", d.message(), "0 1 0 t 1=ccdd 2=aa p");
        CHECKS.same("a read with a fault", d.read("40"), -1);
        CHECKS.same("leaves the latest option as it was", d.desk.longer(0xee, 1), 3);
    }

    private static void payload() {
        Desk d = new Desk();
        CHECKS.same("no bytes", d.desk.payload(-1L, 0), 0);
        CHECKS.same("three bytes", d.desk.payload(0x44332211L, 3), 3);
        CHECKS.same("eight bytes", d.desk.payload(0x8877665544332211L, 8), 11);
        CHECKS.same("the payload", d.part(-2), "1122331122334455667788");
        CHECKS.illegalArgument("payload(0, -1)", () -> d.desk.payload(0, -1));
        CHECKS.illegalArgument("payload(0, 9)", () -> d.desk.payload(0, 9));
        Desk full = new Desk().counted(399);
        CHECKS.illegalState("payload of 401", () -> full.desk.payload(0, 2));
        CHECKS.same("payload of 400", full.desk.payload(0, 1), 400);
        CHECKS.same("and nothing more", full.desk.payload(0, 0), 400);
        CHECKS.illegalState("payload of 401 from 400", () -> full.desk.payload(0, 1));
        CHECKS.illegalArgument("a wrong one at 400", () -> full.desk.payload(0, 9));
        CHECKS.same("stays", full.desk.about(5), 400);
    }

    private static void about() {
        Desk d = new Desk();
        d.desk.begin(2, 69, 4660, 7L, 5);
        d.option(1, "").option(2, "").payload("abc");
        int[] due = {2, 69, 4660, 5, 2, 3};
        for (int what = 0; what < due.length; what++) {
            CHECKS.same("about(" + what + ")", d.desk.about(what), due[what]);
        }
        CHECKS.illegalArgument("about(-1)", () -> d.desk.about(-1));
        CHECKS.illegalArgument("about(6)", () -> d.desk.about(6));
        CHECKS.illegalArgument("about(MIN)", () -> d.desk.about(Integer.MIN_VALUE));
    }

    private static void byteOf() {
        Desk d = new Desk();
        d.desk.begin(2, 69, 4660, 0xff01L, 2);
        d.option(9, "f0f1").option(4, "80").payload("z");
        CHECKS.same("token", d.part(-1), "01ff");
        CHECKS.same("option 0", d.part(0), "80");
        CHECKS.same("option 1", d.part(1), "f0f1");
        CHECKS.same("payload", d.part(-2), "7a");
        for (int part = -2; part <= 1; part++) {
            CHECKS.same("behind part " + part, d.desk.byteOf(part, 2), -1);
            CHECKS.same("far behind part " + part, d.desk.byteOf(part, Integer.MAX_VALUE), -1);
            CHECKS.same("before part " + part, d.desk.byteOf(part, -1), -1);
            CHECKS.same("far before part " + part, d.desk.byteOf(part, Integer.MIN_VALUE), -1);
        }
        for (int part : new int[] {2, 20, -3, Integer.MAX_VALUE, Integer.MIN_VALUE}) {
            CHECKS.illegalArgument("byteOf(" + part + ", 0)", () -> d.desk.byteOf(part, 0));
        }
        d.desk.begin(0, 0, 0, 0, 0);
        CHECKS.illegalArgument("an option of the message before", () -> d.desk.byteOf(0, 0));
    }

    private static void optionAt() {
        Desk d = new Desk();
        d.option(1, "").option(2, "07").option(3, "0102").option(4, "010203").option(5, "7fffffff");
        d.option(6, "80000000").option(7, "ffffffff").option(8, "0000000001").longOption(65535, 300);
        long[][] due = {
            {1, 0, 0}, {2, 1, 7}, {3, 2, 258}, {4, 3, 66051}, {5, 4, Integer.MAX_VALUE},
            {6, 4, Integer.MIN_VALUE}, {7, 4, -1}, {8, 5, -1}, {65535, 300, -1},
        };
        for (int k = 0; k < due.length; k++) {
            for (int what = 0; what <= 2; what++) {
                CHECKS.same("optionAt(" + k + ", " + what + ")", d.desk.optionAt(k, what), due[k][what]);
            }
        }
        int[][] wrong = {{-1, 0}, {9, 0}, {0, -1}, {0, 3}, {20, 0}, {Integer.MIN_VALUE, 0}, {0, Integer.MAX_VALUE}};
        for (int[] row : wrong) {
            CHECKS.illegalArgument("optionAt(" + row[0] + ", " + row[1] + ")", () -> d.desk.optionAt(row[0], row[1]));
        }
    }
}
