/** The edges of promise 13 and of what THE SERVER does before it looks for a resource: one method for each sentence. */
public final class ServerEdgesTest {
    private static final Checks CHECKS = new Checks();
    private static final int GET = 1;
    private static final int POST = 2;
    private static final int PUT = 3;
    private static final int DELETE = 4;

    public static void main(String[] args) {
        peers();
        typesThatAreNotAnswered();
        whatCannotBeRead();
        twentyOptions();
        codeNothing();
        codesAbove();
        becomesWhatIsSent();
        messageBegunStays();
        firstIds();
        latestEight();
        latestEightGoRound();
        latestEightOfRequests();
        latestEightOfThatPeer();
        sentAgain();
        nothingElseIsDone();
        typeOfAnswer();
        ownIds();
        tokenOfAnswer();
        oddOptions();
        fiveTwice();
        blockTwice();
        blockNumber();
        oneLength();
        codeAboveFour();
        firstThatFits();
        CHECKS.finish();
    }

    private static void peers() {
        CHECKS.sentence("13: a PEER 0 .. 9; IllegalArgumentException: there is no such peer");
        Desk d = new Desk();
        for (int peer = 0; peer <= 9; peer++) {
            CHECKS.same("peer " + peer, d.ask(PUT, 1, "a").served(peer), peer == 0 ? 65 : 68);
        }
        d.ask(PUT, 2, "a").desk.write();
        CHECKS.illegalArgument("-1", () -> d.desk.serve(-1));
        CHECKS.illegalArgument("10", () -> d.desk.serve(10));
        for (int far : Checks.FAR) {
            CHECKS.illegalArgument("" + far, () -> d.desk.serve(far));
        }
        CHECKS.same("the bytes at hand stay", d.atHand(), "40030002b161");
        CHECKS.same("nothing was served", d.totals(), "1 10 10 0 0");
        d.desk.end(3);
        CHECKS.illegalArgument("10, with what can't be read", () -> d.desk.serve(10));
        CHECKS.same("the bytes at hand stay then", d.atHand(), "400300");
    }

    private static void typesThatAreNotAnswered() {
        CHECKS.sentence("THE SERVER: of type 2 or 3: nothing is sent");
        for (int type = 2; type <= 3; type++) {
            for (int code : new int[] {0, 1, 3, 4, 31, 32, 69, 255}) {
                Desk d = new Desk().begun(type, code, 5);
                CHECKS.same("type " + type + " code " + code, d.served(0), -1);
                CHECKS.same("bytes at hand", d.desk.total(0), 0);
                CHECKS.same("nothing is counted", d.totals(), "0 0 0 0 0");
                CHECKS.same("its ID is not that of a request", d.ask(GET, 5, "a").served(0), 132);
                CHECKS.same("nor is it repeated", d.totals(), "0 0 1 0 0");
                CHECKS.same("the ID of a request", d.begun(type, code, 5).served(0), -1);
                CHECKS.same("nothing is counted then", d.totals(), "0 0 1 0 0");
            }
        }
    }

    private static void whatCannotBeRead() {
        CHECKS.sentence("THE SERVER: one that can't be read: nothing is sent");
        String[] texts = {
            "", "400300", "00030005", "80030005", "c0030005", "49030005 000000000000000000", "42030005 00", "40030005 f0",
            "40030005 b2 61", "40030005 ff", "40000005 00", "41000005 00", "40000005 ff00", "50030005 e0fef3",
        };
        for (String text : texts) {
            Desk d = new Desk().fed(text);
            CHECKS.same(text, d.desk.serve(0), -1);
            CHECKS.same("bytes at hand", d.desk.total(0), 0);
            CHECKS.same("nothing is counted", d.totals(), "0 0 0 0 0");
            CHECKS.same("its ID is not that of a request", d.ask(PUT, 5, "a").served(0), 65);
            CHECKS.same("the ID of a request", d.fed(text).desk.serve(0), -1);
            CHECKS.same("nothing is counted then", d.totals(), "1 1 1 0 0");
        }
        CHECKS.same("a payload of 401", new Desk().fed("40030005 ff").times(0, 401).desk.serve(0), -1);
        CHECKS.same("a payload of 400", new Desk().fed("40030005 ff").times(0, 400).desk.serve(0), 65);
        CHECKS.same("a path of 401", new Desk().fed("40030005 be0084").times(0, 401).desk.serve(0), -1);
        CHECKS.same("a path of 400", new Desk().fed("40030005 be0083").times(0, 400).desk.serve(0), 65);
    }

    private static void twentyOptions() {
        CHECKS.sentence("13: A message of more than 20 options can't be read");
        Desk d = new Desk();
        CHECKS.same("21 of a request", d.fed("40030005").times(0, 21).desk.serve(0), -1);
        CHECKS.same("bytes at hand", d.desk.total(0), 0);
        CHECKS.same("21 of what would be reset", d.fed("40200005").times(0, 21).desk.serve(0), -1);
        CHECKS.same("nothing is counted", d.totals(), "0 0 0 0 0");
        CHECKS.same("20 of a request", d.fed("40030005").times(0, 20).desk.serve(0), 65);
        CHECKS.same("20 of what is reset", d.fed("40200005").times(0, 20).desk.serve(0), 0);
        CHECKS.same("20 values of a path", d.fed("40030006 b0").times(0, 19).desk.serve(0), 65);
        CHECKS.same("21 values of a path", d.fed("40030007 b0").times(0, 20).desk.serve(0), -1);
        CHECKS.same("the path of 20", d.desk.resource(1, 0), 20);
    }

    private static void codeNothing() {
        CHECKS.sentence("THE SERVER: Of type 0 with code 0: a reset with its ID, nothing more; of type 1 with code 0: nothing");
        for (int id : new int[] {0, 1, 255, 256, 65535}) {
            Desk d = new Desk().begun(0, 0, id);
            CHECKS.same("type 0, ID " + id, d.served(0), 0);
            CHECKS.same("what is sent", d.atHand(), "7000" + Desk.hexOfTwo(id));
            CHECKS.same("type 1, ID " + id, d.begun(1, 0, id).served(0), -1);
            CHECKS.same("nothing is sent", d.desk.total(0), 0);
            CHECKS.same("nothing is counted", d.totals(), "0 0 0 0 0");
        }
    }

    private static void codesAbove() {
        CHECKS.sentence("THE SERVER: Codes above 31: of type 0 a reset with its ID; else nothing. Others are REQUESTS");
        for (int code = 1; code <= 255; code++) {
            Desk d = new Desk();
            d.desk.begin(0, code, 0x1234, -1L, 8);
            d.payload("x");
            int due = code > 31 ? 0 : code > 4 ? 133 : code == PUT ? 65 : code == DELETE ? 66 : 132;
            CHECKS.same("type 0, code " + code, d.served(0), due);
            if (code > 31) {
                CHECKS.same("a reset without a token", d.atHand(), "70001234");
            }
            CHECKS.same("requests", d.desk.total(3), code > 31 ? 0 : 1);
            Desk other = new Desk().begun(1, code, 0x1234);
            CHECKS.same("type 1, code " + code, other.served(0), code > 31 ? -1 : due);
            CHECKS.same("requests of type 1", other.desk.total(3), code > 31 ? 0 : 1);
            CHECKS.same("own IDs", other.desk.total(5), code > 31 ? 0 : 1);
        }
    }

    private static void becomesWhatIsSent() {
        CHECKS.sentence("13: they become those that are sent (none, if nothing is)");
        Desk d = new Desk().fed("40030001 ff").times(7, 400);
        CHECKS.same("a long request", d.desk.serve(0), 65);
        CHECKS.same("a short answer", d.atHand(), "60410001420001");
        CHECKS.same("how many", d.desk.total(0), 7);
        CHECKS.same("more come behind it", d.desk.feed(9, 1), 8);
        CHECKS.same("an answer is not answered", d.desk.serve(0), -1);
        CHECKS.same("none", d.atHand(), "");
        CHECKS.same("a byte behind none", d.desk.feed(9, 1), 1);
        CHECKS.same("a short request", d.fed("48010002 0102030405060708 d10a06").desk.serve(0), 69);
        CHECKS.same("the longest answer", d.desk.total(0), 4 + 8 + 3 + 3 + 1 + 400);
    }

    private static void messageBegunStays() {
        CHECKS.sentence("13: the bytes at hand (so the message begun stays as it is)");
        Desk d = new Desk().begun(1, 3, 5).option(7, "aa").payload("x");
        for (String text : new String[] {"40030001 b161 ff62", "40000002", "60000003", "40", "40010004 d0ff 00 ff61"}) {
            d.fed(text).desk.serve(0);
            CHECKS.same(text, d.message(), "1 3 5 t 7=aa p78");
        }
        CHECKS.same("the option put latest", d.desk.longer(0xbb, 1), 2);
    }

    private static void firstIds() {
        CHECKS.sentence("THE SERVER: the latest 8 requests of that peer, while there are none");
        for (int id : new int[] {0, 1, 65535}) {
            Desk d = new Desk();
            for (int peer = 0; peer <= 9; peer++) {
                CHECKS.same("ID " + id + " of peer " + peer, d.ask(POST, id, "a").served(peer), 132);
            }
            CHECKS.same("none is a repeated one", d.totals(), "0 0 10 0 0");
        }
        Desk d = new Desk();
        int[] near = {0, 256, 65280, 255, 65535, 1, 32768};
        for (int id : near) {
            CHECKS.same("ID " + id, d.ask(POST, id, "a").served(0), 132);
        }
        CHECKS.same("none is like another", d.desk.total(4), 0);
        for (int id : near) {
            CHECKS.same("ID " + id + " again", d.ask(PUT, id, "a").served(0), 132);
        }
        CHECKS.same("all are repeated", d.desk.total(4), near.length);
    }

    private static void latestEight() {
        CHECKS.sentence("THE SERVER: with the ID of one of the latest 8 requests of that peer");
        for (int others = 0; others <= 10; others++) {
            Desk d = new Desk();
            d.ask(POST, 100, "a").served(0);
            for (int k = 0; k < others; k++) {
                d.ask(POST, k, "a").served(0);
            }
            CHECKS.same("ID 100 with " + others + " behind it", d.ask(PUT, 100, "a").served(0), others < 8 ? 132 : 65);
            CHECKS.same("repeated ones", d.desk.total(4), others < 8 ? 1 : 0);
            CHECKS.same("requests", d.desk.total(3), others < 8 ? others + 1 : others + 2);
        }
    }

    private static void latestEightGoRound() {
        CHECKS.sentence("THE SERVER: the latest 8 requests, as more and more come");
        for (int sent = 8; sent <= 26; sent++) {
            Desk d = new Desk();
            for (int id = 0; id < sent; id++) {
                d.ask(POST, id, "a").served(0);
            }
            for (int id = sent - 8; id < sent; id++) {
                CHECKS.same("of " + sent + ", ID " + id, d.ask(PUT, id, "a").served(0), 132);
                CHECKS.same("its ID", d.desk.hand(3), id);
            }
            CHECKS.same("repeated ones", d.desk.total(4), 8);
            CHECKS.same("of " + sent + ", ID " + (sent - 9), d.ask(GET, sent - 9 & 255, "a").served(0), 132);
            CHECKS.same("is no repeated one", d.desk.total(4), 8);
            CHECKS.same("and stands for the oldest", d.ask(PUT, sent - 8, "a").served(0), 65);
        }
    }

    private static void latestEightOfRequests() {
        CHECKS.sentence("THE SERVER: the latest 8 requests, not of what else came");
        Desk d = new Desk();
        d.ask(POST, 100, "a").served(0);
        for (int id = 0; id < 7; id++) {
            d.ask(POST, id, "a").served(0);
            d.begun(0, 0, 200 + id).served(0);
            d.begun(1, 40, 210 + id).served(0);
            d.begun(2, 1, 220 + id).served(0);
            d.fed("400100").desk.serve(0);
            d.ask(POST, id, "a").served(0);
            d.ask(POST, id + 8, "a").served(1);
        }
        CHECKS.same("the first of 8", d.ask(PUT, 100, "a").served(0), 132);
        CHECKS.same("repeated ones", d.desk.total(4), 8);
        CHECKS.same("a ninth", d.ask(POST, 7, "a").served(0), 132);
        CHECKS.same("the first of 9", d.ask(PUT, 100, "a").served(0), 65);
    }

    private static void latestEightOfThatPeer() {
        CHECKS.sentence("THE SERVER: of that peer");
        Desk d = new Desk();
        for (int peer = 0; peer <= 9; peer++) {
            d.ask(PUT, 7, "a").payload("x").served(peer);
            CHECKS.same("the tag for peer " + peer, d.atHand(4, 7), "4200" + Desk.hex(peer + 1));
        }
        for (int peer = 9; peer >= 0; peer--) {
            CHECKS.same("again of peer " + peer, d.ask(GET, 7, "b").served(peer), peer == 0 ? 65 : 68);
            CHECKS.same("what was sent to it", d.atHand(4, 7), "4200" + Desk.hex(peer + 1));
        }
        CHECKS.same("counts", d.totals(), "1 10 10 10 0");
    }

    private static void sentAgain() {
        CHECKS.sentence("THE SERVER: what was sent for that one is sent again");
        Desk d = new Desk();
        d.ask(PUT, 1, "a").counted(400).served(0);
        d.desk.begin(1, GET, 2, 0x0807060504030201L, 8);
        CHECKS.same("the longest answer", d.path("a").option(23, "06").served(0), 69);
        CHECKS.same("how long it is", d.desk.total(0), 419);
        d.ask(PUT, 3, "a").payload("new").served(0);
        d.ask(DELETE, 4, "a").served(0);
        CHECKS.same("again, for a reading of nothing", d.begun(0, 31, 2).served(0), 69);
        CHECKS.same("as long", d.desk.total(0), 419);
        CHECKS.same("its head, token, tag and block", d.atHand(0, 19), "58450000" + "0102030405060708" + "420001" + "d10606" + "ff");
        CHECKS.same("its contents", d.atHand(19, 22) + d.atHand(417, 419), "000102" + "8e8f");
        String[] answers = {"", "60410001420001", "", "60440003420002", "60420004"};
        for (int id : new int[] {1, 3, 4}) {
            d.ask(POST, id, "a").served(0);
            CHECKS.same("ID " + id, d.atHand(), answers[id]);
        }
    }

    private static void nothingElseIsDone() {
        CHECKS.sentence("THE SERVER: and nothing else is done");
        Desk d = new Desk();
        d.begun(1, PUT, 1).path("a").payload("xyz").served(0);
        String first = d.atHand();
        String resources = d.resources();
        int[] codes = {GET, POST, PUT, DELETE, 5, 31};
        for (int i = 0; i < codes.length; i++) {
            CHECKS.same("code " + codes[i], d.begun(i % 2, codes[i], 1).path("a").payload("q").served(0), 65);
            CHECKS.same("what is sent", d.atHand(), first);
            CHECKS.same("the resources", d.resources(), resources);
            CHECKS.same("the counts", d.totals(), "1 1 1 " + (i + 1) + " 1");
        }
        CHECKS.same("PUT of another", d.begun(0, PUT, 1).path("b").served(0), 65);
        CHECKS.same("it is not made", d.desk.total(1), 1);
    }

    private static void typeOfAnswer() {
        CHECKS.sentence("THE SERVER: of type 2 with the ID, if the request is of type 0; else of type 1 with an ID of the server's own");
        for (int id : new int[] {0, 255, 256, 65535}) {
            Desk d = new Desk();
            d.ask(PUT, id, "a").served(0);
            CHECKS.same("type 0", d.atHand(0, 4), "6041" + Desk.hexOfTwo(id));
            d.begun(1, PUT, id).path("a").served(1);
            CHECKS.same("type 1", d.atHand(0, 4), "50440000");
            d.begun(0, 9, id).served(2);
            CHECKS.same("type 0, an error", d.atHand(), "6085" + Desk.hexOfTwo(id));
            d.begun(1, 9, id).served(3);
            CHECKS.same("type 1, an error", d.atHand(), "50850001");
        }
    }

    private static void ownIds() {
        CHECKS.sentence("THE SERVER: an ID of the server's own (0, 1, .. modulo 65536)");
        Desk d = new Desk().begun(1, PUT, 500);
        int next = 0;
        for (int round = 0; round < 8; round++) {
            d.begun(1, round % 2 == 0 ? PUT : 9, 500 + round);
            for (int peer = 0; peer <= 9; peer++) {
                d.served(peer);
                CHECKS.same("own ID", d.desk.hand(2) * 256 + d.desk.hand(3), next);
                next++;
            }
            CHECKS.same("the next", d.desk.total(5), next);
        }
        d.served(9);
        CHECKS.same("a repeated one takes none", d.desk.total(5), next);
        d.begun(0, PUT, 600).served(9);
        CHECKS.same("a confirmable one takes none", d.desk.total(5), next);
        d.begun(1, 40, 601).served(9);
        CHECKS.same("what is no request takes none", d.desk.total(5), next);
    }

    private static void tokenOfAnswer() {
        CHECKS.sentence("THE SERVER: the request's token");
        String token = "ff0203040506ff08";
        for (int n = 0; n <= 8; n++) {
            Desk d = new Desk();
            d.desk.begin(0, PUT, 1, 0x08ff0605040302ffL, n);
            d.served(0);
            CHECKS.same("of " + n, d.atHand(), Desk.hex(0x60 + n) + "410001" + token.substring(0, 2 * n) + "420001");
            d.desk.begin(1, 5, 2, 0x08ff0605040302ffL, n);
            d.served(0);
            CHECKS.same("of " + n + " with an error", d.atHand(), Desk.hex(0x50 + n) + "850000" + token.substring(0, 2 * n));
            d.desk.begin(0, GET, 3, 0L, 0);
            d.served(0);
            CHECKS.same("none behind one of " + n, d.atHand(), "60450003420001");
        }
    }

    private static void oddOptions() {
        CHECKS.sentence("THE SERVER: 130, if it has an option with an odd number that is none of 1, 5, 11, 15, 23");
        for (int number = 0; number <= 40; number++) {
            boolean known = number == 1 || number == 5 || number == 11 || number == 15 || number == 23;
            Desk d = new Desk();
            d.ask(PUT, 1, "").served(0);
            d.ask(GET, 2, "").option(number, "").served(0);
            int due = number == 11 ? 132 : number % 2 == 0 || known ? 69 : 130;
            CHECKS.same("option " + number, d.desk.hand(1), due);
        }
        int[][] rows = {
            {255, 130}, {256, 132}, {257, 130}, {267, 130}, {32767, 130}, {32768, 132}, {65533, 130}, {65534, 132}, {65535, 130},
        };
        for (int[] row : rows) {
            CHECKS.same("option " + row[0], new Desk().ask(GET, 2, "").option(row[0], "").served(0), row[1]);
            Desk last = new Desk().ask(GET, 2, "a");
            for (int k = 0; k < 18; k++) {
                last.option(4, "");
            }
            CHECKS.same("option " + row[0] + " as the 20th", last.option(row[0], "").served(0), row[1]);
            CHECKS.same("what is sent", last.atHand(), "60" + Desk.hex(row[1]) + "0002");
        }
    }

    private static void fiveTwice() {
        CHECKS.sentence("THE SERVER: 130, or one of 5 twice");
        for (int code = GET; code <= DELETE; code++) {
            int[] due = {0, 132, 132, 65, 66};
            Desk d = new Desk();
            CHECKS.same("once, code " + code, d.ask(code, 1, "a").option(5, "").served(0), due[code]);
            CHECKS.same("twice, code " + code, d.ask(code, 2, "b").option(5, "").option(5, "").served(0), 130);
            CHECKS.same("with a value, code " + code, d.ask(code, 3, "c").option(5, "").option(5, "07").served(0), 130);
            CHECKS.same("three times, code " + code, d.ask(code, 4, "d").option(5, "").option(5, "").option(5, "").served(0), 130);
            CHECKS.same("once and a 23, code " + code, d.ask(code, 5, "e").option(5, "").option(23, "").served(0), due[code]);
        }
        Desk d = new Desk();
        CHECKS.same("the others twice", d.ask(PUT, 1, "a/b").option(15, "").option(15, "").served(0), 65);
        CHECKS.same("options 1 and 4 twice",
            d.ask(PUT, 2, "a/b").option(1, "").option(1, "").option(4, "").option(4, "").served(0), 68);
    }

    private static void blockTwice() {
        CHECKS.sentence("THE SERVER: 130, or one of 23 twice");
        for (int code = GET; code <= DELETE; code++) {
            int[] due = {0, 132, 132, 65, 66};
            Desk d = new Desk();
            CHECKS.same("once, code " + code, d.ask(code, 1, "a").option(23, "").served(0), due[code]);
            CHECKS.same("twice, code " + code, d.ask(code, 2, "b").option(23, "").option(23, "").served(0), 130);
            CHECKS.same("two numbers, code " + code, d.ask(code, 3, "c").option(23, "06").option(23, "16").served(0), 130);
        }
    }

    private static void blockNumber() {
        CHECKS.sentence("THE SERVER: 130, or a 23 that is no whole number, or above 1048575, or with 7 as its three lowest bits");
        Object[][] rows = {
            {"", 65}, {"00", 65}, {"0000", 65}, {"000000", 65}, {"00000000", 65}, {"0000000000", 130}, {"0000000000000000", 130},
            {"06", 65}, {"07", 130}, {"08", 65}, {"0e", 65}, {"0f", 130}, {"10", 65}, {"16", 65}, {"17", 130}, {"1f", 130}, {"f6", 65},
            {"f7", 130}, {"fe", 65}, {"ff", 130}, {"fffe", 65}, {"ffff", 130}, {"0ffffe", 65}, {"0fffff", 130}, {"0ffff6", 65},
            {"0ffff8", 65}, {"100000", 130}, {"100001", 130}, {"ffffff", 130}, {"fffff8", 130}, {"000ffffe", 65}, {"00100000", 130},
            {"01000000", 130}, {"7ffffff0", 130}, {"80000000", 130}, {"80000006", 130}, {"fffffff8", 130}, {"ffffffff", 130},
        };
        for (Object[] row : rows) {
            Desk d = new Desk();
            CHECKS.same("PUT with " + row[0], d.ask(PUT, 1, "a").option(23, (String) row[0]).served(0), (Integer) row[1]);
            CHECKS.same("resources", d.desk.total(1), (Integer) row[1] == 65 ? 1 : 0);
            CHECKS.same("DELETE with " + row[0], d.ask(DELETE, 2, "a").option(23, (String) row[0]).served(0),
                (Integer) row[1] == 65 ? 66 : 130);
            CHECKS.same("GET with " + row[0], d.ask(GET, 3, "a").option(23, (String) row[0]).served(0),
                (Integer) row[1] == 65 ? 132 : 130);
        }
    }

    private static void oneLength() {
        CHECKS.sentence("THE SERVER: 130, or a 1 whose value is longer than 8");
        for (int n : new int[] {0, 1, 7, 8, 9, 10, 400}) {
            Desk d = new Desk();
            d.ask(PUT, 1, "a").served(0);
            CHECKS.same("GET with a 1 of " + n, d.ask(GET, 2, "a").longOption(1, n).served(0), n > 8 ? 130 : 69);
            CHECKS.same("PUT with a 1 of " + n, d.ask(PUT, 3, "a").longOption(1, n).served(0), n > 8 ? 130 : n == 0 ? 68 : 140);
            CHECKS.same("and one that is met", d.ask(PUT, 4, "a").option(1, "").longOption(1, n).served(0), n > 8 ? 130 : 68);
            CHECKS.same("a 4 of " + n, d.ask(GET, 5, "a").longOption(4, n).served(0), 69);
            CHECKS.same("a 5 of " + n, d.ask(GET, 6, "a").longOption(5, n).served(0), 69);
            CHECKS.same("a 15 of " + n, d.ask(GET, 7, "a").longOption(15, n).served(0), 69);
        }
    }

    private static void codeAboveFour() {
        CHECKS.sentence("THE SERVER: 133, if the code is above 4");
        for (int code = 1; code <= 31; code++) {
            Desk d = new Desk();
            d.ask(PUT, 1, "a").payload("x").served(0);
            int[] due = {0, 69, 68, 68, 66};
            CHECKS.same("code " + code, d.ask(code, 2, "a").served(0), code > 4 ? 133 : due[code]);
            if (code > 4) {
                CHECKS.same("what is sent", d.atHand(), "60850002");
                CHECKS.same("nothing is changed", d.resources(), "1:1:1");
                CHECKS.same("it is a request", d.totals(), "1 1 2 0 0");
                CHECKS.same("conditions don't count", d.ask(code, 3, "a").option(1, "0009").option(5, "").served(0), 133);
            }
        }
    }

    private static void firstThatFits() {
        CHECKS.sentence("THE SERVER: a code and what comes with it, the first that fits");
        Desk d = new Desk();
        d.ask(PUT, 1, "a").payload("x").served(0);
        CHECKS.same("130 before 133", d.ask(5, 2, "a").option(7, "").served(1), 130);
        CHECKS.same("130 before 132", d.ask(GET, 3, "z").option(7, "").served(1), 130);
        CHECKS.same("130 before 67", d.ask(GET, 4, "a").option(4, "0001").option(23, "07").served(1), 130);
        CHECKS.same("130 before 140", d.ask(PUT, 5, "a").option(5, "").option(5, "").served(1), 130);
        CHECKS.same("133 before 132", d.ask(5, 6, "z").served(1), 133);
        CHECKS.same("133 before 140", d.ask(5, 7, "a").option(5, "").served(1), 133);
        CHECKS.same("132 before a block beyond the end", d.ask(GET, 8, "z").option(23, "16").served(1), 132);
        CHECKS.same("67 before a block beyond the end", d.ask(GET, 9, "a").option(4, "0001").option(23, "16").served(1), 67);
        CHECKS.same("a block beyond the end", d.ask(GET, 10, "a").option(4, "0002").option(23, "16").served(1), 130);
        CHECKS.same("140 before 132", d.ask(POST, 11, "z").option(1, "").served(1), 140);
        CHECKS.same("nothing is changed by all that", d.resources(), "1:1:1");
        CHECKS.same("the counts", d.totals(), "1 1 11 0 0");
    }
}
