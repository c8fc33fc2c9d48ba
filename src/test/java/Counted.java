/**
 * A CoapDesk that counts its calls, and ends the test if there are more than 512 of them: what an object answers then
 * is free, so a check behind them would ask for more than the document does.
 */
final class Counted {
    private static final int MOST = 512;

    private final CoapDesk desk = new CoapDesk();
    private int calls = 0;

    private CoapDesk next() {
        calls++;
        if (calls > MOST) {
            throw new AssertionError("a test makes more than " + MOST + " calls on one object");
        }
        return desk;
    }

    int calls() {
        return calls;
    }

    void begin(int type, int code, int id, long token, int n) {
        next().begin(type, code, id, token, n);
    }

    int option(int number, long w, int n) {
        return next().option(number, w, n);
    }

    int longer(long w, int n) {
        return next().longer(w, n);
    }

    int payload(long w, int n) {
        return next().payload(w, n);
    }

    int write() {
        return next().write();
    }

    int feed(long w, int n) {
        return next().feed(w, n);
    }

    void end(int n) {
        next().end(n);
    }

    int read() {
        return next().read();
    }

    int about(int what) {
        return next().about(what);
    }

    int byteOf(int part, int i) {
        return next().byteOf(part, i);
    }

    int optionAt(int k, int what) {
        return next().optionAt(k, what);
    }

    int serve(int peer) {
        return next().serve(peer);
    }

    int hand(int i) {
        return next().hand(i);
    }

    int total(int what) {
        return next().total(what);
    }

    int resource(int k, int what) {
        return next().resource(k, what);
    }
}
