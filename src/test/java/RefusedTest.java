/**
 * "A call that throws changes nothing; of several exceptions that fit the one named first is thrown."
 * Two objects are brought to the same state; the call is refused by one of them, and both are then asked for all that
 * can be seen, and for what the next calls answer.
 */
public final class RefusedTest {
    private static final Checks CHECKS = new Checks();

    private interface State {
        Desk make();
    }

    private interface Call {
        void on(Counted desk);
    }

    private interface Answer {
        int of(Counted desk);
    }

    public static void main(String[] args) {
        State[] states = {Desk::new, RefusedTest::busy, RefusedTest::fullMessage, RefusedTest::fullHand, RefusedTest::fullServer};
        String[] names = {"a new object", "a busy one", "a full message", "2000 at hand", "16 resources"};
        for (int i = 0; i < states.length; i++) {
            argumentsOfMessage(names[i], states[i]);
            argumentsOfBytes(names[i], states[i]);
            argumentsOfLooks(names[i], states[i]);
        }
        states();
        tooManyOptions();
        firstNamed();
        CHECKS.finish();
    }

    /** Something of all kinds; the option put latest is not the last in order. */
    private static Desk busy() {
        Desk d = new Desk();
        d.begun(0, 3, 7).path("a").payload("abc").served(0);
        d.begun(1, 3, 8).path("b").payload("de").served(1);
        d.desk.begin(1, 2, 3, 0x0504030201L, 5);
        d.option(9, "0a0b").option(300, "0c").option(9, "0d").payload("xyz");
        return d.fed("41010007 aa b161");
    }

    /** 20 options, the one put latest of 400 bytes, and a payload of 400 bytes. */
    private static Desk fullMessage() {
        Desk d = new Desk();
        d.desk.begin(3, 255, 65535, -1L, 8);
        for (int k = 0; k < 19; k++) {
            d.desk.option(2 * k + 1, k, 8);
        }
        return d.longOption(4, 400).counted(400);
    }

    private static Desk fullHand() {
        return new Desk().begun(0, 1, 5).option(4, "aa").fed("40010001 ff").times(0x5a, 1995);
    }

    private static Desk fullServer() {
        Desk d = new Desk();
        for (int k = 0; k < 16; k++) {
            d.begun(k % 2, 3, k).option(11, Desk.hex(k)).payload("xyz".substring(k % 4 == 3 ? 3 : k % 4)).served(k % 10);
        }
        return d.begun(0, 3, 15).fed("4003000f");
    }

    private static String answer(Desk d, Answer of) {
        try {
            return " " + of.of(d.desk);
        } catch (RuntimeException e) {
            return " " + e.getClass().getSimpleName();
        }
    }

    /** What can be seen of an object, without too many calls. */
    private static String seen(Desk d) {
        StringBuilder text = new StringBuilder(d.abouts()).append(" / ").append(d.part(-1)).append(" /");
        int options = d.desk.about(4);
        for (int k = 0; k < options; k++) {
            int length = d.desk.optionAt(k, 1);
            text.append(' ').append(d.desk.optionAt(k, 0)).append('=').append(length).append(':').append(d.desk.byteOf(k, 0));
            text.append(':').append(d.desk.byteOf(k, length - 1)).append(':').append(d.desk.byteOf(k, length));
        }
        int payload = d.desk.about(5);
        text.append(" / ").append(d.desk.byteOf(-2, 0)).append(' ').append(d.desk.byteOf(-2, payload - 1));
        text.append(' ').append(d.desk.byteOf(-2, payload)).append(" /");
        int size = d.desk.total(0);
        for (int i = 0; i < 12; i++) {
            text.append(' ').append(d.desk.hand(i)).append(' ').append(d.desk.hand(size - i));
        }
        return text.append(" / ").append(size).append(' ').append(d.totals()).append(" / ").append(d.resources()).toString();
    }

    /** What the next calls answer, which tells of what can't be seen: the option put latest, and what was sent. */
    private static String next(Desk d) {
        StringBuilder text = new StringBuilder();
        text.append(answer(d, x -> x.longer(0x77, 1))).append(answer(d, x -> x.payload(0x66, 1)));
        text.append(answer(d, x -> x.option(5, 0x55, 1))).append(answer(d, Counted::read));
        text.append(answer(d, x -> x.serve(0))).append(answer(d, x -> x.hand(3))).append(answer(d, x -> x.hand(6)));
        text.append(answer(d, Counted::write)).append(answer(d, x -> x.feed(0, 1)));
        for (int id : new int[] {7, 8, 0, 10}) {
            for (int peer = 0; peer <= 1; peer++) {
                int of = peer;
                d.fed("400300" + Desk.hex(id));
                text.append(answer(d, x -> x.serve(of))).append(answer(d, x -> x.hand(6)));
            }
        }
        return text.append(" / ").append(d.totals()).toString();
    }

    private static void refused(String name, Class<? extends RuntimeException> due, State state, Call call) {
        Desk refusing = state.make();
        Desk twin = state.make();
        CHECKS.throwing(name, due, () -> call.on(refusing.desk));
        CHECKS.same(name + " changes nothing:", seen(refusing), seen(twin));
        CHECKS.same(name + " changes nothing for the next calls:", next(refusing), next(twin));
    }

    private static void argument(String name, State state, Call call) {
        refused(name, IllegalArgumentException.class, state, call);
    }

    private static void argumentsOfMessage(String name, State state) {
        CHECKS.sentence("A call that throws changes nothing, promises 2 to 5");
        argument(name + ": begin of type -1", state, x -> x.begin(-1, 1, 2, 3L, 4));
        argument(name + ": begin of type 4", state, x -> x.begin(4, 1, 2, 3L, 4));
        argument(name + ": begin of code -1", state, x -> x.begin(1, -1, 2, 3L, 4));
        argument(name + ": begin of code 256", state, x -> x.begin(1, 256, 2, 3L, 4));
        argument(name + ": begin of ID -1", state, x -> x.begin(1, 1, -1, 3L, 4));
        argument(name + ": begin of ID 65536", state, x -> x.begin(1, 1, 65536, 3L, 4));
        argument(name + ": begin with n -1", state, x -> x.begin(1, 1, 2, 3L, -1));
        argument(name + ": begin with n 9", state, x -> x.begin(1, 1, 2, 3L, 9));
        argument(name + ": option -1", state, x -> x.option(-1, 5L, 4));
        argument(name + ": option 65536", state, x -> x.option(65536, 5L, 4));
        argument(name + ": option with n -1", state, x -> x.option(5, 5L, -1));
        argument(name + ": option with n 9", state, x -> x.option(5, 5L, 9));
        argument(name + ": longer with n -1", state, x -> x.longer(5L, -1));
        argument(name + ": longer with n 9", state, x -> x.longer(5L, 9));
        argument(name + ": payload with n -1", state, x -> x.payload(5L, -1));
        argument(name + ": payload with n 9", state, x -> x.payload(5L, 9));
    }

    private static void argumentsOfBytes(String name, State state) {
        CHECKS.sentence("A call that throws changes nothing, promises 7, 8 and 13");
        argument(name + ": feed with n -1", state, x -> x.feed(5L, -1));
        argument(name + ": feed with n 9", state, x -> x.feed(5L, 9));
        argument(name + ": end(-1)", state, x -> x.end(-1));
        argument(name + ": end of one more", state, x -> x.end(x.total(0) + 1));
        argument(name + ": serve(-1)", state, x -> x.serve(-1));
        argument(name + ": serve(10)", state, x -> x.serve(10));
    }

    private static void argumentsOfLooks(String name, State state) {
        CHECKS.sentence("A call that throws changes nothing, promises 10 to 12, 15 and 16");
        argument(name + ": about(-1)", state, x -> x.about(-1));
        argument(name + ": about(6)", state, x -> x.about(6));
        argument(name + ": byteOf(-3, 0)", state, x -> x.byteOf(-3, 0));
        argument(name + ": byteOf of one more", state, x -> x.byteOf(x.about(4), 0));
        argument(name + ": optionAt(-1, 0)", state, x -> x.optionAt(-1, 0));
        argument(name + ": optionAt of one more", state, x -> x.optionAt(x.about(4), 0));
        argument(name + ": optionAt(0, -1)", state, x -> x.optionAt(0, -1));
        argument(name + ": optionAt(0, 3)", state, x -> x.optionAt(0, 3));
        argument(name + ": total(-1)", state, x -> x.total(-1));
        argument(name + ": total(6)", state, x -> x.total(6));
        argument(name + ": resource(-1, 0)", state, x -> x.resource(-1, 0));
        argument(name + ": resource of one more", state, x -> x.resource(x.total(1), 0));
        argument(name + ": resource(0, -1)", state, x -> x.resource(0, -1));
        argument(name + ": resource(0, 3)", state, x -> x.resource(0, 3));
    }

    private static void states() {
        CHECKS.sentence("A call that throws changes nothing, IllegalStateException");
        Class<IllegalStateException> due = IllegalStateException.class;
        refused("a 21st option", due, RefusedTest::fullMessage, x -> x.option(7, 5L, 4));
        refused("longer than 400 by 1", due, RefusedTest::fullMessage, x -> x.longer(5L, 1));
        refused("longer than 400 by 8", due, RefusedTest::fullMessage, x -> x.longer(5L, 8));
        refused("longer with none put", due, Desk::new, x -> x.longer(5L, 1));
        refused("longer with none put, by 0", due, Desk::new, x -> x.longer(5L, 0));
        refused("longer with none put since begin", due, RefusedTest::fullServer, x -> x.longer(5L, 1));
        refused("longer with none put since read", due, RefusedTest::afterRead, x -> x.longer(5L, 1));
        refused("a payload of 401", due, RefusedTest::fullMessage, x -> x.payload(5L, 1));
        refused("a payload of 408", due, RefusedTest::fullMessage, x -> x.payload(5L, 8));
        refused("2001 at hand", due, RefusedTest::fullHand, x -> x.feed(5L, 1));
        refused("2008 at hand", due, RefusedTest::fullHand, x -> x.feed(5L, 8));
        refused("2001 written", due, RefusedTest::tooLong, Counted::write);
    }

    private static Desk afterRead() {
        Desk d = busy();
        d.desk.read();
        return d;
    }

    private static Desk tooLong() {
        Desk d = new Desk().begun(0, 1, 0);
        for (int k = 0; k < 4; k++) {
            d.longOption(1, 400);
        }
        return d.longOption(1, 382).fed("40030007 b161");
    }

    private static void tooManyOptions() {
        CHECKS.sentence("A call that throws changes nothing, UnsupportedOperationException");
        Class<UnsupportedOperationException> due = UnsupportedOperationException.class;
        refused("read of 21, busy", due, () -> busy().fed("68ffffff 0102030405060708").times(0x1, 42), Counted::read);
        refused("read of 21, full", due, () -> fullMessage().fed("40010000").times(0x10, 21), Counted::read);
        refused("read of 1996", due, () -> new Desk().fed("40010000").times(0, 1996), Counted::read);
    }

    private static void firstNamed() {
        CHECKS.sentence("of several exceptions that fit the one named first is thrown");
        argument("n 9 and 20 options", RefusedTest::fullMessage, x -> x.option(7, 5L, 9));
        argument("number 65536 and 20 options", RefusedTest::fullMessage, x -> x.option(65536, 5L, 8));
        argument("n -1 and none put", Desk::new, x -> x.longer(5L, -1));
        argument("n 9 and none put", RefusedTest::afterRead, x -> x.longer(5L, 9));
        argument("n 9 and a value of 400", RefusedTest::fullMessage, x -> x.longer(5L, 9));
        argument("n 9 and a payload of 400", RefusedTest::fullMessage, x -> x.payload(5L, 9));
        argument("n 9 and 2000 at hand", RefusedTest::fullHand, x -> x.feed(5L, 9));
    }
}
