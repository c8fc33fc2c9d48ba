/** Promises 13, 15 and 16: the server, what it counts, and its resources. */
public final class ServeTest {
    private static final Checks CHECKS = new Checks();
    private static final int GET = 1;
    private static final int POST = 2;
    private static final int PUT = 3;
    private static final int DELETE = 4;

    public static void main(String[] args) {
        wrongPeer();
        nothingSent();
        resets();
        answerForms();
        ownIds();
        repeated();
        repeatedWindow();
        repeatedPerPeer();
        badOptions();
        goodOptions();
        methods();
        paths();
        longestPaths();
        getTags();
        getWithoutBlocks();
        blocks();
        blockEdges();
        ifMatch();
        manyConditions();
        ifNoneMatch();
        put();
        putFull();
        post();
        delete();
        tags();
        totals();
        resourceRows();
        CHECKS.finish();
    }

    /** A desk with one resource "a" of n bytes 0, 1, 2 .., with tag 1; IDs up to 1 are used by peer 0. */
    private static Desk withContents(int n) {
        Desk d = new Desk();
        d.ask(PUT, 1, "a").counted(n).served(0);
        return d;
    }

    private static void wrongPeer() {
        Desk d = new Desk();
        d.ask(PUT, 1, "a").desk.write();
        String before = d.atHand();
        for (int peer : new int[] {-1, 10, Integer.MAX_VALUE, Integer.MIN_VALUE}) {
            CHECKS.illegalArgument("serve(" + peer + ")", () -> d.desk.serve(peer));
        }
        CHECKS.same("the bytes stay", d.atHand(), before);
        CHECKS.same("nothing is counted", d.totals(), "0 0 0 0 0");
        CHECKS.same("the highest peer", d.desk.serve(9), 65);
    }

    private static void nothingSent() {
        String[] texts = {
            "", "400100", "00010000", "49010000", "40010000 f0", "40010000 ff", "40000000 00",
            "60010000", "70010000", "60000000", "70000000", "60450000",
            "50000000", "50200000", "50ff0000",
        };
        for (String text : texts) {
            Desk d = new Desk().fed(text);
            CHECKS.same("serve of " + text, d.desk.serve(0), -1);
            CHECKS.same("bytes at hand", d.desk.total(0), 0);
            CHECKS.same("nothing is counted", d.totals(), "0 0 0 0 0");
        }
        Desk many = new Desk().fed("40010000").times(0, 21);
        CHECKS.same("serve of 21 options", many.desk.serve(0), -1);
        CHECKS.same("its bytes at hand", many.desk.total(0), 0);
        CHECKS.same("serve of 20 options", many.fed("40010000").times(0, 20).desk.serve(0), 132);
    }

    private static void resets() {
        String[] texts = {"4000abcd", "4020abcd", "40ffabcd", "4145abcd07", "4080abcd ff00"};
        for (String text : texts) {
            Desk d = new Desk().fed(text);
            CHECKS.same("serve of " + text, d.desk.serve(0), 0);
            CHECKS.same("a reset", d.atHand(), "7000abcd");
            CHECKS.same("it is no request", d.totals(), "0 0 0 0 0");
            d.fed("4001abcd");
            CHECKS.same("its ID is not remembered", d.desk.serve(0), 132);
        }
    }

    private static void answerForms() {
        Desk d = new Desk();
        d.desk.begin(0, PUT, 0x0102, 0x0504L, 2);
        d.path("a").payload("hi");
        CHECKS.same("a confirmable request", d.served(3), 65);
        CHECKS.same("its answer", d.atHand(), "62410102" + "0405" + "420001");
        CHECKS.same("the message begun stays", d.message(), "0 3 258 t0405 11=61 p6869");
        d.desk.begin(1, GET, 0x0103, -1L, 8);
        d.path("a");
        CHECKS.same("one that is not", d.served(3), 69);
        CHECKS.same("its answer", d.atHand(), "58450000" + "ffffffffffffffff" + "420001" + "ff6869");
        d.desk.begin(1, GET, 0x0104, 0xaaL, 1);
        d.path("b");
        CHECKS.same("an error", d.served(3), 132);
        CHECKS.same("has no more than its token", d.atHand(), "51840001" + "aa");
    }

    private static void ownIds() {
        Desk d = new Desk();
        for (int i = 0; i < 5; i++) {
            CHECKS.same("next own ID", d.desk.total(5), i);
            d.begun(1, GET, 7 * i).served(i);
            CHECKS.same("own ID", d.atHand(), "5084000" + i);
            d.begun(0, GET, 1000 + i).served(i);
        }
        CHECKS.same("own IDs of others are not used up", d.totals(), "0 0 10 0 5");
    }

    private static void repeated() {
        Desk d = new Desk();
        d.ask(PUT, 5, "a").payload("x").served(2);
        String first = d.atHand();
        d.desk.begin(1, DELETE, 5, 0x99L, 1);
        d.path("a");
        CHECKS.same("the same ID, whatever else it is", d.served(2), 65);
        CHECKS.same("what was sent is sent again", d.atHand(), first);
        CHECKS.same("nothing else is done", d.totals(), "1 1 1 1 0");
        d.fed("40010005 70").desk.serve(2);
        CHECKS.same("even with a bad option", d.atHand(), first);
        d.begun(1, GET, 6).path("a").served(2);
        first = d.atHand();
        d.begun(1, POST, 6).path("a").payload("yz").served(2);
        CHECKS.same("with the server's own ID again", d.atHand(), first);
        CHECKS.same("counts", d.totals(), "1 1 2 3 1");
        d.ask(GET, 7, "b").served(2);
        d.ask(PUT, 7, "b");
        CHECKS.same("errors are repeated too", d.served(2), 132);
        CHECKS.same("a reset is sent for it still", d.fed("40000007").desk.serve(2), 0);
        CHECKS.same("counts then", d.totals(), "1 1 3 4 1");
    }

    private static void repeatedWindow() {
        Desk d = new Desk();
        for (int id = 0; id < 8; id++) {
            d.ask(POST, id, "b").served(0);
        }
        d.ask(PUT, 0, "b");
        CHECKS.same("the eighth latest is repeated", d.served(0), 132);
        d.ask(PUT, 8, "b");
        CHECKS.same("a new ID is not", d.served(0), 65);
        d.ask(PUT, 1, "b");
        CHECKS.same("ID 1 is among the latest 8", d.served(0), 132);
        d.ask(PUT, 0, "b");
        CHECKS.same("ID 0 is not: repeating it changed nothing", d.served(0), 68);
        CHECKS.same("counts", d.totals(), "1 2 10 2 0");
        d.ask(GET, 1, "b");
        CHECKS.same("now ID 1 is not", d.served(0), 69);
        d.ask(DELETE, 0, "b");
        CHECKS.same("and ID 0 is", d.served(0), 68);
    }

    private static void repeatedPerPeer() {
        Desk d = new Desk();
        for (int peer = 0; peer <= 9; peer++) {
            d.ask(PUT, 77, "a");
            CHECKS.same("peer " + peer, d.served(peer), peer == 0 ? 65 : 68);
        }
        CHECKS.same("all were served", d.totals(), "1 10 10 0 0");
        for (int peer = 0; peer <= 9; peer++) {
            d.ask(GET, 77, "a");
            CHECKS.same("peer " + peer + " again", d.served(peer), peer == 0 ? 65 : 68);
            CHECKS.same("its own tag", d.atHand(), "60" + (peer == 0 ? "41" : "44") + "004d42" + "00" + Desk.hex(peer + 1));
        }
        CHECKS.same("all were repeated", d.totals(), "1 10 10 10 0");
    }

    private static void badOptions() {
        Object[][] rows = {
            {3, ""}, {7, ""}, {9, ""}, {13, ""}, {17, ""}, {21, ""}, {25, ""}, {27, "00"}, {35, ""}, {39, ""}, {65535, ""},
            {23, "07"}, {23, "0f"}, {23, "17"}, {23, "100000"}, {23, "0fffff"}, {23, "0000000000"}, {23, "ffffffff"},
            {23, "00100000"}, {23, "80000000"}, {23, "01000000"}, {1, "000102030405060708"},
        };
        int[] codes = {GET, POST, PUT, DELETE, 5, 31};
        for (Object[] row : rows) {
            for (int code : codes) {
                Desk d = new Desk();
                d.ask(code, 1, "a").option((Integer) row[0], (String) row[1]);
                CHECKS.same("code " + code + " with " + row[0] + "=" + row[1], d.served(0), 130);
                CHECKS.same("the answer", d.atHand(), "60820001");
                CHECKS.same("nothing is made", d.totals(), "0 0 1 0 0");
            }
        }
        Desk twice = new Desk();
        CHECKS.same("a 5 twice", twice.ask(PUT, 1, "a").option(5, "").option(5, "").served(0), 130);
        CHECKS.same("a 23 twice", twice.ask(PUT, 2, "a").option(23, "").option(23, "").served(0), 130);
        CHECKS.same("a long 1 among good ones",
            twice.ask(PUT, 3, "a").option(1, "").longOption(1, 9).served(0), 130);
    }

    private static void goodOptions() {
        Object[][] rows = {
            {1, "0001"}, {5, "aabb"}, {15, "00"}, {23, ""}, {23, "08"}, {23, "00000006"}, {23, "06"},
            {0, ""}, {2, ""}, {4, ""}, {4, "00112233445566778899"}, {6, ""}, {8, ""}, {12, ""}, {14, "ff"}, {22, ""},
            {24, ""}, {60, "ff"}, {65534, "00"},
        };
        for (Object[] row : rows) {
            Desk d = withContents(10);
            d.ask(GET, 2, "a").option((Integer) row[0], (String) row[1]);
            CHECKS.same("GET with " + row[0] + "=" + row[1], d.served(0), 69);
        }
        Desk d = withContents(10);
        CHECKS.same("many of 1, 4, 11, 15", d.ask(GET, 2, "a").option(1, "").option(1, "0011223344556677").option(4, "")
            .option(4, "05").option(15, "01").option(15, "02").served(0), 69);
        CHECKS.same("the highest number without 7", d.ask(PUT, 3, "a").option(23, "0ffffe").served(0), 68);
        CHECKS.same("it in four bytes", d.ask(PUT, 4, "a").option(23, "000ffffe").served(0), 68);
    }

    private static void methods() {
        for (int code = 5; code <= 31; code++) {
            Desk d = new Desk();
            CHECKS.same("code " + code, d.ask(code, 1, "a").option(1, "").served(0), 133);
            CHECKS.same("the answer", d.atHand(), "60850001");
        }
        Desk d = new Desk();
        d.begun(1, 31, 9);
        CHECKS.same("code 31, not confirmable", d.served(0), 133);
        CHECKS.same("its answer", d.atHand(), "50850000");
    }

    private static void paths() {
        Desk d = new Desk();
        String[] paths = {"", "a", "b", "a/b", "b/a", "ab", "a/", "/a", "/", "//"};
        for (int i = 0; i < paths.length; i++) {
            CHECKS.same("PUT of " + paths[i], d.ask(PUT, i, paths[i]).payload(paths[i]).served(0), 65);
        }
        CHECKS.same("each is another", d.desk.total(1), paths.length);
        for (int i = 0; i < paths.length; i++) {
            d.ask(GET, 100 + i, paths[i]).served(1);
            d.desk.read();
            StringBuilder due = new StringBuilder();
            for (char c : paths[i].toCharArray()) {
                due.append(Desk.hex(c));
            }
            CHECKS.same("contents of " + paths[i], d.part(-2), due.toString());
        }
        CHECKS.same("how long they are, in values", d.resources(), "0:0:1 1:1:2 1:1:3 2:3:4 2:3:5 1:2:6 2:2:7 2:2:8 2:1:9 3:2:10");
        d.begun(0, GET, 200).option(15, "ff").path("a").option(4, "ffff").path("b");
        CHECKS.same("other options do not make a path", d.served(1), 69);
        CHECKS.same("that is a/b", d.atHand().substring(8), "420004" + "ff612f62");
        Desk large = new Desk();
        CHECKS.same("a long path", large.begun(0, PUT, 1).longOption(11, 400).longOption(11, 269).served(0), 65);
        CHECKS.same("one longer by one value", large.longOption(11, 0).served(1), 65);
        CHECKS.same("its values", large.resources(), "2:0:1 3:0:2");
    }

    /** Peers send a PUT of 2000 bytes, all of them path; that of peer 1 ends with another byte. */
    private static void longestPaths() {
        Desk d = new Desk().begun(0, PUT, 1);
        for (int k = 0; k < 20; k++) {
            d.longOption(11, k < 16 ? 98 : 97);
        }
        CHECKS.same("bytes", d.desk.write(), 2000);
        CHECKS.same("the longest path", d.desk.serve(0), 65);
        d.desk.write();
        d.desk.end(1999);
        d.desk.feed(2, 1);
        CHECKS.same("another in its last byte", d.desk.serve(1), 65);
        CHECKS.same("the first again", d.served(2), 68);
        CHECKS.same("their values", d.resources(), "20:0:3 20:0:2");
    }

    private static void getTags() {
        Desk d = withContents(3);
        CHECKS.same("the tag", d.ask(GET, 2, "a").option(4, "0001").served(0), 67);
        CHECKS.same("67 comes with it alone", d.atHand(), "60430002" + "420001");
        CHECKS.same("one of several", d.ask(GET, 3, "a").option(4, "").option(4, "0001").option(4, "0002").served(0), 67);
        for (String other : new String[] {"", "01", "000001", "0002", "0100", "00000001"}) {
            Desk o = withContents(3);
            CHECKS.same("not " + other, o.ask(GET, 4, "a").option(4, other).served(0), 69);
            CHECKS.same("the contents come", o.atHand(), "60450004" + "420001" + "ff000102");
        }
        CHECKS.same("67 before a block beyond the end",
            d.ask(GET, 5, "a").option(4, "0001").option(23, "fff6").served(0), 67);
        CHECKS.same("without such a resource", d.ask(GET, 6, "b").option(4, "0001").option(23, "fff6").served(0), 132);
        CHECKS.same("no conditions for GET", d.ask(GET, 7, "a").option(1, "0009").option(5, "").served(0), 69);
        CHECKS.same("a payload is nothing to GET", d.ask(GET, 8, "a").payload("zz").served(0), 69);
        CHECKS.same("no change by all that", d.resources(), "1:3:1");
    }

    private static void getWithoutBlocks() {
        Desk none = withContents(0);
        CHECKS.same("no contents", none.ask(GET, 2, "a").served(0), 69);
        CHECKS.same("no mark", none.atHand(), "60450002" + "420001");
        Desk most = withContents(64);
        CHECKS.same("64 bytes", most.ask(GET, 2, "a").served(0), 69);
        CHECKS.same("no blocks", most.atHand().substring(0, 18), "60450002" + "420001" + "ff00");
        CHECKS.same("all of them", most.desk.total(0), 8 + 64);
        Desk more = withContents(65);
        CHECKS.same("65 bytes", more.ask(GET, 2, "a").served(0), 69);
        CHECKS.same("the first block", more.atHand().substring(0, 24), "60450002" + "420001" + "d1060a" + "ff00");
        CHECKS.same("64 of them", more.desk.total(0), 11 + 64);
    }

    /** GET of block option text: the code, option 23 of the answer, first byte of the payload and how long it is. */
    private static String block(Desk d, int id, String asked) {
        int code = d.ask(GET, id, "a").option(23, asked).served(9);
        CHECKS.same("the answer can be read", d.desk.read() >= 0 ? 1 : 0, 1);
        if (code != 69) {
            CHECKS.same("no options", d.desk.about(4), 0);
            return "" + code;
        }
        CHECKS.same("the tag", d.part(0), "0001");
        CHECKS.same("then the block", d.desk.optionAt(1, 0), 23);
        return code + " " + d.part(1) + " " + d.desk.byteOf(-2, 0) + " " + d.desk.about(5);
    }

    private static void blocks() {
        String[][] rows = {
            {"", "69 08 0 16"}, {"00", "69 08 0 16"}, {"08", "69 08 0 16"}, {"01", "69 09 0 32"}, {"02", "69 0a 0 64"},
            {"03", "69 0b 0 128"}, {"04", "69 0c 0 256"}, {"05", "69 05 0 400"}, {"06", "69 06 0 400"},
            {"10", "69 18 16 16"}, {"18", "69 18 16 16"}, {"12", "69 1a 64 64"}, {"62", "69 62 128 16"},
            {"24", "130"}, {"14", "69 14 0 144"}, {"15", "130"}, {"16", "130"}, {"72", "130"},
            {"0180", "69 0180 128 16"}, {"000010", "69 18 16 16"}, {"00000010", "69 18 16 16"},
            {"0190", "130"}, {"fffff6", "130"}, {"0ffff6", "130"}, {"0170", "69 0178 112 16"},
        };
        for (int i = 0; i < rows.length; i++) {
            Desk d = withContents(400);
            CHECKS.same("block " + rows[i][0], block(d, 10 + i, rows[i][0]), rows[i][1]);
        }
        Desk whole = withContents(400);
        whole.ask(GET, 2, "a").option(23, "06").served(0);
        CHECKS.same("all in one answer", whole.desk.total(0), 4 + 3 + 3 + 1 + 400);
        whole.desk.begin(0, GET, 3, -1L, 8);
        whole.path("a").option(23, "06").served(0);
        CHECKS.same("with the longest token", whole.desk.total(0), 4 + 8 + 3 + 3 + 1 + 400);
    }

    private static void blockEdges() {
        String[][] rows = {
            {"0", "", "69  -1 0"}, {"0", "06", "69 06 -1 0"}, {"0", "10", "130"}, {"1", "00", "69  0 1"},
            {"15", "", "69  0 15"}, {"16", "", "69  0 16"}, {"17", "", "69 08 0 16"}, {"16", "10", "130"},
            {"17", "10", "69 10 16 1"}, {"32", "10", "69 10 16 16"}, {"33", "10", "69 18 16 16"}, {"32", "20", "130"},
            {"64", "02", "69 02 0 64"}, {"65", "02", "69 0a 0 64"}, {"65", "12", "69 12 64 1"}, {"64", "12", "130"},
            {"272", "0100", "69 0100 0 16"}, {"273", "0100", "69 0108 0 16"}, {"257", "0100", "69 0100 0 1"}, {"256", "0100", "130"},
        };
        for (int i = 0; i < rows.length; i++) {
            Desk d = withContents(Integer.parseInt(rows[i][0]));
            CHECKS.same("of " + rows[i][0] + " block " + rows[i][1], block(d, 10 + i, rows[i][1]), rows[i][2]);
        }
    }

    private static void ifMatch() {
        Object[][] rows = {
            {"0001", 1}, {"", 1}, {"0002", 0}, {"01", 0}, {"000001", 0}, {"0100", 0}, {"0000000000000001", 0},
        };
        for (int code = POST; code <= DELETE; code++) {
            int done = code == DELETE ? 66 : 68;
            for (Object[] row : rows) {
                Desk d = withContents(3);
                CHECKS.same("code " + code + " if match " + row[0],
                    d.ask(code, 2, "a").option(1, (String) row[0]).payload("xy").served(0), (Integer) row[1] == 1 ? done : 140);
                if ((Integer) row[1] == 0) {
                    CHECKS.same("nothing is changed", d.resources(), "1:3:1");
                    CHECKS.same("the answer", d.atHand(), "608c0002");
                }
            }
            Desk d = withContents(3);
            CHECKS.same("none of several", d.ask(code, 2, "a").option(1, "0003").option(1, "0002").served(0), 140);
            CHECKS.same("no resource, empty", d.ask(code, 3, "b").option(1, "").served(0), 140);
            CHECKS.same("no resource, a tag", d.ask(code, 4, "b").option(1, "0001").served(0), 140);
            CHECKS.same("one of several", d.ask(code, 5, "a").option(1, "0003").option(1, "0001").served(0), done);
            CHECKS.same("none was made", d.desk.total(1), code == DELETE ? 0 : 1);
        }
    }

    /** As many options 1, or 4, as a message can have beside its path; the latest of them is told. */
    private static Desk manyTagOptions(Desk d, int code, int id, int number, String last) {
        d.ask(code, id, "a");
        for (int k = 0; k < 18; k++) {
            d.option(number, "0009");
        }
        return d.option(number, last);
    }

    private static void manyConditions() {
        Desk d = withContents(3);
        CHECKS.same("19 options 1, none of them met", manyTagOptions(d, PUT, 2, 1, "0002").served(0), 140);
        CHECKS.same("19 options 4, none of them met", manyTagOptions(d, GET, 3, 4, "0002").served(0), 69);
        CHECKS.same("the last option 4 is met", manyTagOptions(d, GET, 4, 4, "0001").served(0), 67);
        CHECKS.same("the last option 1 is met", manyTagOptions(d, PUT, 5, 1, "0001").served(0), 68);
        CHECKS.same("options of the request before are gone", d.ask(PUT, 6, "a").option(1, "0001").served(0), 140);
    }

    private static void ifNoneMatch() {
        int[][] rows = {{POST, 132}, {PUT, 65}, {DELETE, 66}};
        for (int[] row : rows) {
            Desk d = withContents(3);
            CHECKS.same("code " + row[0] + " with 5 and one", d.ask(row[0], 2, "a").option(5, "").served(0), 140);
            CHECKS.same("with a value", d.ask(row[0], 3, "a").option(5, "07").served(0), 140);
            CHECKS.same("with 1 that is met", d.ask(row[0], 4, "a").option(5, "").option(1, "0001").served(0), 140);
            CHECKS.same("nothing is changed", d.resources(), "1:3:1");
            CHECKS.same("with 1 and none", d.ask(row[0], 5, "b").option(5, "").option(1, "").served(0), 140);
            CHECKS.same("with 5 and none", d.ask(row[0], 6, "b").option(5, "").served(0), row[1]);
        }
    }

    private static void put() {
        Desk d = withContents(400);
        CHECKS.same("made", d.atHand(), "60410001" + "420001");
        CHECKS.same("PUT again", d.ask(PUT, 2, "a").payload("xyz").served(0), 68);
        CHECKS.same("its answer", d.atHand(), "60440002" + "420002");
        CHECKS.same("the payload is the contents", d.resources(), "1:3:2");
        d.ask(GET, 3, "a").served(0);
        CHECKS.same("those bytes", d.atHand(), "60450003" + "420002" + "ff78797a");
        CHECKS.same("the same bytes", d.ask(PUT, 4, "a").payload("xyz").served(0), 68);
        CHECKS.same("have a new tag", d.resources(), "1:3:3");
        CHECKS.same("no bytes", d.ask(PUT, 5, "a").served(0), 68);
        CHECKS.same("are contents too", d.resources(), "1:0:4");
        CHECKS.same("a block option is nothing to PUT", d.ask(PUT, 6, "a").option(23, "16").payload("q").served(0), 68);
    }

    private static void putFull() {
        Desk d = new Desk();
        for (int k = 0; k < 16; k++) {
            CHECKS.same("resource " + k, d.ask(PUT, k, "" + (char) ('a' + k)).served(0), 65);
        }
        CHECKS.same("a 17th", d.ask(PUT, 20, "q").served(0), 143);
        CHECKS.same("its answer", d.atHand(), "608f0014");
        CHECKS.same("no tag is used", d.totals(), "16 16 17 0 0");
        CHECKS.same("140 before 143", d.ask(PUT, 21, "q").option(1, "").served(0), 140);
        CHECKS.same("one that is there", d.ask(PUT, 22, "p").payload("1").served(0), 68);
        CHECKS.same("one goes", d.ask(DELETE, 23, "c").served(0), 66);
        CHECKS.same("one comes", d.ask(PUT, 24, "q").payload("12").served(0), 65);
        CHECKS.same("and no more", d.ask(PUT, 25, "c").served(0), 143);
        CHECKS.same("they are in the order in which they were made", d.resources(),
            "1:0:1 1:0:2 1:0:4 1:0:5 1:0:6 1:0:7 1:0:8 1:0:9 1:0:10 1:0:11 1:0:12 1:0:13 1:0:14 1:0:15 1:1:17 1:2:18");
    }

    private static void post() {
        Desk d = withContents(2);
        CHECKS.same("POST", d.ask(POST, 2, "a").payload("z").served(0), 68);
        CHECKS.same("its answer", d.atHand(), "60440002" + "420002");
        d.ask(GET, 3, "a").served(0);
        CHECKS.same("behind the contents", d.atHand(), "60450003" + "420002" + "ff00017a");
        CHECKS.same("POST of nothing", d.ask(POST, 4, "a").served(0), 68);
        CHECKS.same("has a new tag", d.resources(), "1:3:3");
        CHECKS.same("without a resource", d.ask(POST, 5, "b").payload("z").served(0), 132);
        CHECKS.same("none is made", d.desk.total(1), 1);
        CHECKS.same("up to 400", d.ask(POST, 6, "a").counted(397).served(0), 68);
        CHECKS.same("400 and none", d.ask(POST, 7, "a").served(0), 68);
        CHECKS.same("above 400", d.ask(POST, 8, "a").payload("z").served(0), 141);
        CHECKS.same("its answer", d.atHand(), "608d0008");
        CHECKS.same("nothing is changed", d.resources(), "1:400:5");
        CHECKS.same("140 before 141", d.ask(POST, 9, "a").option(5, "").payload("z").served(0), 140);
    }

    private static void delete() {
        Desk d = withContents(2);
        d.ask(PUT, 2, "b").payload("bbb").served(0);
        d.ask(PUT, 3, "c").served(0);
        CHECKS.same("without a resource", d.ask(DELETE, 4, "z").served(0), 66);
        CHECKS.same("its answer", d.atHand(), "60420004");
        CHECKS.same("nothing goes", d.desk.total(1), 3);
        CHECKS.same("the first goes", d.ask(DELETE, 5, "a").payload("q").served(0), 66);
        CHECKS.same("its answer", d.atHand(), "60420005");
        CHECKS.same("the others are there", d.resources(), "1:3:2 1:0:3");
        CHECKS.same("it is gone", d.ask(GET, 6, "a").served(0), 132);
        CHECKS.same("no tag is used", d.desk.total(2), 3);
        CHECKS.same("made again it is empty and last", d.ask(PUT, 7, "a").served(0), 65);
        CHECKS.same("that is", d.resources(), "1:3:2 1:0:3 1:0:4");
        d.ask(GET, 8, "b").served(0);
        CHECKS.same("the contents of another", d.atHand(), "60450008" + "420002" + "ff626262");
    }

    private static void tags() {
        Desk d = new Desk();
        for (int i = 1; i <= 120; i++) {
            d.begun(0, PUT, i).desk.write();
            CHECKS.same("PUT " + i, d.desk.serve(0), i == 1 ? 65 : 68);
        }
        CHECKS.same("the count", d.desk.total(2), 120);
        CHECKS.same("the tag", d.desk.resource(0, 2), 120);
        CHECKS.same("GET of it", d.begun(0, GET, 200).option(4, "0078").served(0), 67);
    }

    private static void totals() {
        Desk d = new Desk();
        CHECKS.illegalArgument("total(-1)", () -> d.desk.total(-1));
        CHECKS.illegalArgument("total(6)", () -> d.desk.total(6));
        CHECKS.illegalArgument("total(MIN)", () -> d.desk.total(Integer.MIN_VALUE));
        d.begun(1, PUT, 1).path("a").served(0);
        CHECKS.same("bytes at hand", d.desk.total(0), 7);
        d.served(0);
        d.begun(1, PUT, 2).path("b").served(0);
        d.begun(1, PUT, 3).path("b").served(0);
        d.begun(0, 9, 4).path("b").served(0);
        d.begun(0, PUT, 4).path("b").served(0);
        CHECKS.same("the totals", d.totals(), "2 3 4 2 3");
    }

    private static void resourceRows() {
        Desk d = new Desk();
        d.ask(PUT, 1, "a/b/c").counted(65).served(0);
        d.begun(0, PUT, 2).served(0);
        CHECKS.same("path", d.desk.resource(0, 0), 3);
        CHECKS.same("contents", d.desk.resource(0, 1), 65);
        CHECKS.same("tag", d.desk.resource(0, 2), 1);
        CHECKS.same("no path", d.desk.resource(1, 0), 0);
        int[][] wrong = {{2, 0}, {-1, 0}, {0, 3}, {0, -1}, {16, 0}, {Integer.MAX_VALUE, 0}, {Integer.MIN_VALUE, 0}};
        for (int[] row : wrong) {
            CHECKS.illegalArgument("resource(" + row[0] + ", " + row[1] + ")", () -> d.desk.resource(row[0], row[1]));
        }
    }
}
