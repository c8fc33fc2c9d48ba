/** A CoapDesk with shorter ways to put bytes in and to see all that it holds, as hexadecimal texts. */
final class Desk {
    final Counted desk = new Counted();

    /** A call that takes the lowest bytes of a word. */
    private interface Taker {
        void take(long word, int n);
    }

    static String hex(int octet) {
        return String.format("%02x", octet);
    }

    /** The bytes of a text, as hexadecimal digits. */
    static String hexOf(String text) {
        StringBuilder digits = new StringBuilder();
        for (char c : text.toCharArray()) {
            digits.append(hex(c));
        }
        return digits.toString();
    }

    /** Two bytes, the high one first. */
    static String hexOfTwo(int number) {
        return hex(number / 256) + hex(number % 256);
    }

    /** Hands out the bytes of a hexadecimal text, as many in a call as a word can hold, from byte number first on. */
    private static void inWords(String hexText, int first, Taker taker) {
        String digits = hexText.replace(" ", "");
        for (int i = 2 * first; i < digits.length(); i += 16) {
            String part = digits.substring(i, Math.min(i + 16, digits.length()));
            taker.take(lowFirst(part), part.length() / 2);
        }
    }

    private static long lowFirst(String digits) {
        long word = 0;
        for (int i = digits.length() - 2; i >= 0; i -= 2) {
            word = word << 8 | Integer.parseInt(digits.substring(i, i + 2), 16);
        }
        return word;
    }

    /** Puts the bytes of a hexadecimal text at hand, in place of those that were. */
    Desk fed(String hexText) {
        desk.end(0);
        return more(hexText);
    }

    Desk more(String hexText) {
        inWords(hexText, 0, desk::feed);
        return this;
    }

    /** Feeds n bytes that are all the same, eight in a call. */
    Desk times(int octet, int n) {
        long word = octet * 0x0101010101010101L;
        for (int left = n; left > 0; left -= 8) {
            desk.feed(word, Math.min(left, 8));
        }
        return this;
    }

    int read(String hexText) {
        return fed(hexText).desk.read();
    }

    Desk begun(int type, int code, int id) {
        desk.begin(type, code, id, 0L, 0);
        return this;
    }

    /** A confirmable request of a path, begun; what it asks for comes behind. */
    Desk ask(int code, int id, String path) {
        return begun(0, code, id).path(path);
    }

    /** Puts an option whose value is the bytes of a hexadecimal text. */
    Desk option(int number, String hexText) {
        String digits = hexText.replace(" ", "");
        String first = digits.substring(0, Math.min(16, digits.length()));
        desk.option(number, lowFirst(first), first.length() / 2);
        inWords(digits, 8, desk::longer);
        return this;
    }

    Desk longOption(int number, int n) {
        return option(number, "8877665544332211".repeat(n / 8 + 1).substring(0, 2 * n));
    }

    /** The options 11 of a path told with slashes; an empty text is the empty path. */
    Desk path(String path) {
        if (!path.isEmpty()) {
            for (String value : path.split("/", -1)) {
                option(11, hexOf(value));
            }
        }
        return this;
    }

    Desk payload(String text) {
        inWords(hexOf(text), 0, desk::payload);
        return this;
    }

    /** A payload of n bytes 0, 1, 2 .. (modulo 256), eight in a call. */
    Desk counted(int n) {
        StringBuilder digits = new StringBuilder();
        for (int i = 0; i < n; i++) {
            digits.append(hex(i % 256));
        }
        inWords(digits.toString(), 0, desk::payload);
        return this;
    }

    int served(int peer) {
        desk.write();
        return desk.serve(peer);
    }

    String atHand() {
        StringBuilder text = new StringBuilder();
        int octet = desk.hand(0);
        for (int i = 1; octet != CoapDesk.NONE; i++) {
            text.append(hex(octet));
            octet = desk.hand(i);
        }
        return text.toString();
    }

    /** The bytes at hand from number from up to, but not with, number to. */
    String atHand(int from, int to) {
        StringBuilder text = new StringBuilder();
        for (int i = from; i < to; i++) {
            text.append(hex(desk.hand(i)));
        }
        return text.toString();
    }

    String part(int part) {
        StringBuilder text = new StringBuilder();
        int octet = desk.byteOf(part, 0);
        for (int i = 1; octet != CoapDesk.NONE; i++) {
            text.append(hex(octet));
            octet = desk.byteOf(part, i);
        }
        return text.toString();
    }

    /** All that the message begun is: type code id token, number=value of each option, payload. */
    String message() {
        StringBuilder text = new StringBuilder();
        text.append(desk.about(0)).append(' ').append(desk.about(1)).append(' ').append(desk.about(2));
        text.append(" t").append(part(CoapDesk.NONE));
        int options = desk.about(4);
        for (int k = 0; k < options; k++) {
            text.append(' ').append(desk.optionAt(k, 0)).append('=').append(part(k));
        }
        return text.append(" p").append(part(-2)).toString();
    }

    /** What about(0) .. about(5) answer: type, code, ID, and how many the token, options and payload are. */
    String abouts() {
        StringBuilder text = new StringBuilder();
        for (int what = 0; what <= 5; what++) {
            text.append(what > 0 ? " " : "").append(desk.about(what));
        }
        return text.toString();
    }

    /** What total(1) .. total(5) answer: resources, tags, served, repeated, the next own ID. */
    String totals() {
        StringBuilder text = new StringBuilder();
        for (int what = 1; what <= 5; what++) {
            text.append(what > 1 ? " " : "").append(desk.total(what));
        }
        return text.toString();
    }

    /** Of each resource: how long its path is, its contents, its tag. */
    String resources() {
        StringBuilder text = new StringBuilder();
        int count = desk.total(1);
        for (int k = 0; k < count; k++) {
            text.append(k > 0 ? " " : "").append(desk.resource(k, 0)).append(':').append(desk.resource(k, 1));
            text.append(':').append(desk.resource(k, 2));
        }
        return text.toString();
    }
}
