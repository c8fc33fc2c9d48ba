/** A CoapDesk with shorter ways to put bytes in and to see all that it holds, as hexadecimal texts. */
final class Desk {
    final CoapDesk desk = new CoapDesk();

    static String hex(int octet) {
        return String.format("%02x", octet);
    }

    /** Puts the bytes of a hexadecimal text at hand, in place of those that were. */
    Desk fed(String hexText) {
        desk.end(0);
        return more(hexText);
    }

    Desk more(String hexText) {
        String digits = hexText.replace(" ", "");
        for (int i = 0; i < digits.length(); i += 2) {
            desk.feed(Integer.parseInt(digits.substring(i, i + 2), 16), 1);
        }
        return this;
    }

    /** Feeds n bytes that are all the same, eight in a call. */
    Desk times(int octet, int n) {
        long word = octet * 0x0101010101010101L;
        for (int left = n; left > 0; left -= 8) {
            desk.feed(word, Math.min(left, 8));
        }
        return this;
    }

    int read(String hexText) {
        return fed(hexText).desk.read();
    }

    Desk begun(int type, int code, int id) {
        desk.begin(type, code, id, 0L, 0);
        return this;
    }

    /** Puts an option whose value is the bytes of a hexadecimal text. */
    Desk option(int number, String hexText) {
        String digits = hexText.replace(" ", "");
        desk.option(number, 0L, 0);
        for (int i = 0; i < digits.length(); i += 2) {
            desk.longer(Integer.parseInt(digits.substring(i, i + 2), 16), 1);
        }
        return this;
    }

    Desk longOption(int number, int n) {
        desk.option(number, 0L, 0);
        for (int left = n; left > 0; left -= 8) {
            desk.longer(0x1122334455667788L, Math.min(left, 8));
        }
        return this;
    }

    /** The options 11 of a path told with slashes; an empty text is the empty path. */
    Desk path(String path) {
        if (!path.isEmpty()) {
            for (String value : path.split("/", -1)) {
                StringBuilder text = new StringBuilder();
                for (char c : value.toCharArray()) {
                    text.append(hex(c));
                }
                option(11, text.toString());
            }
        }
        return this;
    }

    Desk payload(String text) {
        for (char c : text.toCharArray()) {
            desk.payload(c, 1);
        }
        return this;
    }

    /** A payload of n bytes 0, 1, 2 .. (modulo 256), eight in a call. */
    Desk counted(int n) {
        for (int i = 0; i < n; i += 8) {
            long word = 0;
            for (int b = 7; b >= 0; b--) {
                word = word << 8 | (i + b & 255);
            }
            desk.payload(word, Math.min(8, n - i));
        }
        return this;
    }

    int served(int peer) {
        desk.write();
        return desk.serve(peer);
    }

    String atHand() {
        StringBuilder text = new StringBuilder();
        for (int i = 0; desk.hand(i) != CoapDesk.NONE; i++) {
            text.append(hex(desk.hand(i)));
        }
        return text.toString();
    }

    String part(int part) {
        StringBuilder text = new StringBuilder();
        for (int i = 0; desk.byteOf(part, i) != CoapDesk.NONE; i++) {
            text.append(hex(desk.byteOf(part, i)));
        }
        return text.toString();
    }

    /** All that the message begun is: type code id token, number=value of each option, payload. */
    String message() {
        StringBuilder text = new StringBuilder();
        text.append(desk.about(0)).append(' ').append(desk.about(1)).append(' ').append(desk.about(2));
        text.append(" t").append(part(CoapDesk.NONE));
        for (int k = 0; k < desk.about(4); k++) {
            text.append(' ').append(desk.optionAt(k, 0)).append('=').append(part(k));
        }
        return text.append(" p").append(part(-2)).toString();
    }

    /** What total(1) .. total(5) answer: resources, tags, served, repeated, the next own ID. */
    String totals() {
        StringBuilder text = new StringBuilder();
        for (int what = 1; what <= 5; what++) {
            text.append(what > 1 ? " " : "").append(desk.total(what));
        }
        return text.toString();
    }

    /** Of each resource: how long its path is, its contents, its tag. */
    String resources() {
        StringBuilder text = new StringBuilder();
        for (int k = 0; k < desk.total(1); k++) {
            text.append(k > 0 ? " " : "").append(desk.resource(k, 0)).append(':').append(desk.resource(k, 1));
            text.append(':').append(desk.resource(k, 2));
        }
        return text.toString();
    }
}
