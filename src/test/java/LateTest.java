/**
 * "modulo 65536": the count of tags and the server's own IDs, each as it wraps round. A run of 512 calls can't bring
 * them there, and behind those the document leaves the answers free; this test asks no more than that its words on the
 * two numbers hold for this program even so.
 */
public final class LateTest {
    private static final Checks CHECKS = new Checks();
    private static final int GET = 1;
    private static final int PUT = 3;
    private static final int IF_MATCH = 1;
    private static final int TAG = 4;

    private final CoapDesk desk = new CoapDesk();
    private int puts = 0;
    private int conditions = 0;

    public static void main(String[] args) {
        new LateTest().wrap();
        CHECKS.finish();
    }

    /** PUTs that are not confirmable, each with an ID that its peer did not use of late, until there were so many. */
    private void putUpTo(int count) {
        while (puts < count) {
            puts++;
            desk.begin(1, PUT, puts % 50000, 0L, 0);
            desk.write();
            int code = desk.serve(puts % 10);
            if (code != (puts == 1 ? 65 : 68)) {
                CHECKS.same("PUT " + puts, code, puts == 1 ? 65 : 68);
            }
        }
    }

    /** The code for a confirmable request, which takes no own ID, with a tag in its option 1 or 4. */
    private int withTag(int code, int option, int tag) {
        conditions++;
        desk.begin(0, code, 50000 + conditions, 0L, 0);
        desk.option(option, (tag & 255) << 8 | tag >> 8, 2);
        desk.write();
        return desk.serve(0);
    }

    private String atHand() {
        StringBuilder text = new StringBuilder();
        for (int i = 0; i < desk.total(0); i++) {
            text.append(Desk.hex(desk.hand(i)));
        }
        return text.toString();
    }

    private void wrap() {
        CHECKS.sentence("RESOURCES: a TAG, two bytes (high one first) of a count; THE SERVER: an ID of its own (modulo 65536)");
        for (int count : new int[] {2, 255, 256, 257, 32768, 65535, 65536, 65537}) {
            putUpTo(count);
            int tag = count % 65536;
            CHECKS.same("PUT " + count, atHand(), "5044" + Desk.hexOfTwo(count - 1 & 65535) + "42" + Desk.hexOfTwo(tag));
            CHECKS.same("the count of tags", desk.total(2), tag);
            CHECKS.same("the tag", desk.resource(0, 2), tag);
            CHECKS.same("the next own ID", desk.total(5), tag);
            CHECKS.same("GET with tag " + tag, withTag(GET, TAG, tag), 67);
            CHECKS.same("what is sent", atHand().substring(8), "42" + Desk.hexOfTwo(tag));
            CHECKS.same("GET with the tag before", withTag(GET, TAG, tag - 1 & 65535), 69);
            CHECKS.same("PUT with the tag before", withTag(PUT, IF_MATCH, tag - 1 & 65535), 140);
        }
        CHECKS.same("PUT with that tag", withTag(PUT, IF_MATCH, 1), 68);
        CHECKS.same("the tag then", desk.resource(0, 2), 2);
        CHECKS.same("all were served", desk.total(3), 65537 + conditions);
        CHECKS.same("none was repeated", desk.total(4), 0);
    }
}
