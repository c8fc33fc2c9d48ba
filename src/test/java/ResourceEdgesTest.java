/**
 * The edges of what GET, POST, PUT and DELETE do, of RESOURCES, and of promises 15 and 16: one method for each sentence.
 */
public final class ResourceEdgesTest {
    private static final Checks CHECKS = new Checks();
    private static final int GET = 1;
    private static final int POST = 2;
    private static final int PUT = 3;
    private static final int DELETE = 4;

    public static void main(String[] args) {
        getWithout();
        getTag();
        getWithoutBlocks();
        getUnaskedBlocks();
        blockSizes();
        blockEnds();
        blockBeyond();
        blockNumberBytes();
        blockMoreBit();
        ifMatch();
        ifMatchWithout();
        ifNoneMatch();
        twentyConditions();
        putContents();
        putMade();
        contentsAreKept();
        sixteen();
        postWithout();
        postLimit();
        deleteGoes();
        deleteWithout();
        tagsGoUp();
        tagsStay();
        pathValues();
        pathLengths();
        pathLongest();
        order();
        totalWhat();
        totalCounts();
        resourceArguments();
        lastCalls();
        CHECKS.finish();
    }

    /** A desk with one resource "a" of n bytes 0, 1, 2 .., with tag 1, put by peer 0 with ID 1. */
    private static Desk withContents(int n) {
        Desk d = new Desk();
        d.ask(PUT, 1, "a").counted(n).served(0);
        return d;
    }

    private static void getWithout() {
        CHECKS.sentence("GET: 132, without such a resource");
        Desk d = new Desk();
        CHECKS.same("of none", d.ask(GET, 1, "").served(0), 132);
        CHECKS.same("what is sent", d.atHand(), "60840001");
        d.ask(PUT, 2, "a").served(0);
        for (String path : new String[] {"", "b", "aa", "a/a", "a/", "/a", "A"}) {
            CHECKS.same("of [" + path + "]", d.ask(GET, 10 + path.length(), path).served(1 + path.length()), 132);
        }
        CHECKS.same("of [a]", d.ask(GET, 20, "a").served(0), 69);
        d.ask(DELETE, 21, "a").served(0);
        CHECKS.same("of one that is gone", d.ask(GET, 22, "a").served(0), 132);
    }

    private static void getTag() {
        CHECKS.sentence("GET: 67 with its tag (option 4), if one of its options 4 is that");
        Object[][] rows = {
            {"0001", 67}, {"", 69}, {"01", 69}, {"0000", 69}, {"0002", 69}, {"0101", 69}, {"0100", 69}, {"000001", 69}, {"000100", 69},
            {"00000001", 69}, {"0000000001", 69}, {"0001000100010001", 69},
        };
        for (Object[] row : rows) {
            Desk d = withContents(2);
            CHECKS.same("4 = " + row[0], d.ask(GET, 2, "a").option(4, (String) row[0]).served(0), (Integer) row[1]);
            CHECKS.same("what is sent", d.atHand(), (Integer) row[1] == 67 ? "60430002420001" : "60450002420001ff0001");
        }
        for (int place = 0; place < 19; place++) {
            Desk d = withContents(2);
            d.ask(GET, 2, "a");
            for (int k = 0; k < 19; k++) {
                d.option(4, k == place ? "0001" : "00");
            }
            CHECKS.same("as number " + place + " of 19", d.served(0), 67);
        }
        Desk d = withContents(400);
        d.ask(PUT, 2, "a").counted(400).served(0);
        CHECKS.same("the tag that was", d.ask(GET, 3, "a").option(4, "0001").served(0), 69);
        CHECKS.same("the tag that is", d.ask(GET, 4, "a").option(4, "0002").served(0), 67);
        CHECKS.same("without contents", d.atHand(), "60430004420002");
    }

    private static void getWithoutBlocks() {
        CHECKS.sentence("GET: 69, with the tag, and the contents: by BLOCKS, if it has an option 23, or they are longer than 64 bytes");
        for (int n : new int[] {0, 1, 63, 64}) {
            Desk d = withContents(n);
            CHECKS.same(n + " bytes", d.ask(GET, 2, "a").served(0), 69);
            CHECKS.same("how many are sent", d.desk.total(0), n == 0 ? 7 : 8 + n);
            CHECKS.same("the tag", d.atHand(0, 7), "60450002420001");
            CHECKS.same("then 255", d.desk.hand(7), n == 0 ? -1 : 255);
            CHECKS.same("the last", d.desk.hand(7 + n), n == 0 ? -1 : n - 1);
            CHECKS.same("with a 23", d.ask(GET, 3, "a").option(23, "06").served(0), 69);
            CHECKS.same("the block is told", d.atHand(0, 10), "60450003420001" + "d10606");
            CHECKS.same("how many are sent then", d.desk.total(0), n == 0 ? 10 : 11 + n);
        }
    }

    private static void getUnaskedBlocks() {
        CHECKS.sentence("GET: S 2 without, N 0 without");
        for (int n : new int[] {65, 128, 400}) {
            Desk d = withContents(n);
            CHECKS.same(n + " bytes", d.ask(GET, 2, "a").served(0), 69);
            CHECKS.same("block 0 of 64, more behind", d.atHand(0, 12), "60450002420001" + "d1060a" + "ff00");
            CHECKS.same("64 of them", d.desk.total(0), 11 + 64);
            CHECKS.same("the last", d.desk.hand(11 + 63), 63);
        }
    }

    /** GET of "a" with an option 23: the code, option 23 of the answer, the first byte of the payload, how long it is. */
    private static String block(Desk d, int id, String asked) {
        int code = d.ask(GET, id, "a").option(23, asked).served(9);
        CHECKS.same("options", d.desk.read(), code == 69 ? 2 : 0);
        if (code != 69) {
            CHECKS.same("no payload", d.desk.about(5), 0);
            return "" + code;
        }
        CHECKS.same("the tag", d.desk.optionAt(0, 0) + "=" + d.part(0), "4=0001");
        CHECKS.same("then the block", d.desk.optionAt(1, 0), 23);
        return code + " " + d.part(1) + " " + d.desk.byteOf(-2, 0) + " " + d.desk.about(5);
    }

    private static void blockSizes() {
        CHECKS.sentence("GET: with S the three lowest bits, B 16 * 2^S: B bytes or those that there are");
        int[] sizes = {16, 32, 64, 128, 256, 512, 1024};
        for (int s = 0; s <= 6; s++) {
            Desk d = null;
            for (int n = 0; n * sizes[s] < 400; n++) {
                d = n % 8 == 0 ? withContents(400) : d;
                int there = Math.min(sizes[s], 400 - n * sizes[s]);
                boolean more = (n + 1) * sizes[s] < 400;
                int told = 16 * n + (more ? 8 : 0) + s;
                String value = told == 0 ? "" : told < 256 ? Desk.hex(told) : Desk.hexOfTwo(told);
                CHECKS.same("S " + s + " N " + n, block(d, n, Desk.hexOfTwo(16 * n + s)),
                    "69 " + value + " " + n * sizes[s] % 256 + " " + there);
                CHECKS.same("the last byte", d.desk.byteOf(-2, there - 1), (n * sizes[s] + there - 1) % 256);
                CHECKS.same("none behind it", d.desk.byteOf(-2, there), -1);
            }
        }
    }

    private static void blockEnds() {
        CHECKS.sentence("GET: contents from N B on, B bytes or those that there are; 8 if more are behind");
        String[][] rows = {
            {"1", "00", "69  0 1"}, {"15", "00", "69  0 15"}, {"16", "00", "69  0 16"}, {"17", "00", "69 08 0 16"},
            {"17", "10", "69 10 16 1"}, {"31", "10", "69 10 16 15"}, {"32", "10", "69 10 16 16"}, {"33", "10", "69 18 16 16"},
            {"32", "01", "69 01 0 32"}, {"33", "01", "69 09 0 32"}, {"64", "02", "69 02 0 64"}, {"65", "02", "69 0a 0 64"},
            {"128", "03", "69 03 0 128"}, {"129", "03", "69 0b 0 128"}, {"256", "04", "69 04 0 256"}, {"257", "04", "69 0c 0 256"},
            {"257", "14", "69 14 0 1"}, {"400", "05", "69 05 0 400"}, {"400", "06", "69 06 0 400"}, {"400", "14", "69 14 0 144"},
            {"385", "0180", "69 0180 128 1"}, {"400", "0180", "69 0180 128 16"}, {"384", "0170", "69 0170 112 16"},
            {"385", "0170", "69 0178 112 16"},
        };
        for (String[] row : rows) {
            CHECKS.same("of " + row[0] + " block " + row[1], block(withContents(Integer.parseInt(row[0])), 7, row[1]), row[2]);
        }
    }

    private static void blockBeyond() {
        CHECKS.sentence("GET: 130 if N B is beyond their end (or at it, but for N = 0)");
        String[][] rows = {
            {"0", "", "69  -1 0"}, {"0", "00", "69  -1 0"}, {"0", "08", "69  -1 0"}, {"0", "02", "69 02 -1 0"}, {"0", "06", "69 06 -1 0"},
            {"0", "10", "130"}, {"0", "16", "130"}, {"1", "10", "130"}, {"15", "10", "130"}, {"16", "10", "130"},
            {"17", "10", "69 10 16 1"},
            {"31", "20", "130"}, {"32", "20", "130"}, {"33", "20", "69 20 32 1"}, {"64", "12", "130"}, {"65", "12", "69 12 64 1"},
            {"128", "13", "130"}, {"129", "13", "69 13 128 1"}, {"256", "14", "130"}, {"257", "14", "69 14 0 1"}, {"400", "15", "130"},
            {"400", "16", "130"}, {"400", "0190", "130"}, {"400", "24", "130"}, {"384", "0180", "130"}, {"385", "0180", "69 0180 128 1"},
            {"400", "fff0", "130"}, {"400", "0ffff0", "130"}, {"400", "0ffffe", "130"}, {"1", "0ffff6", "130"}, {"0", "0ffff0", "130"},
        };
        for (String[] row : rows) {
            CHECKS.same("of " + row[0] + " block " + row[1], block(withContents(Integer.parseInt(row[0])), 7, row[1]), row[2]);
        }
    }

    private static void blockNumberBytes() {
        CHECKS.sentence("GET: and S, in as few bytes as it needs");
        String[][] rows = {
            {"16", "", "69  0 16"}, {"16", "00000000", "69  0 16"}, {"17", "00000000", "69 08 0 16"}, {"16", "00000001", "69 01 0 16"},
            {"256", "f0", "69 f0 240 16"}, {"257", "f0", "69 f8 240 16"}, {"257", "0100", "69 0100 0 1"}, {"273", "000100", "69 0108 0 16"},
            {"400", "00000180", "69 0180 128 16"},
        };
        for (String[] row : rows) {
            CHECKS.same("of " + row[0] + " block " + row[1], block(withContents(Integer.parseInt(row[0])), 7, row[1]), row[2]);
        }
    }

    private static void blockMoreBit() {
        CHECKS.sentence("GET: the block is number N (that number by 16), whether or not it has 8 in it");
        String[][] rows = {
            {"16", "08", "69  0 16"}, {"17", "08", "69 08 0 16"}, {"32", "18", "69 10 16 16"}, {"33", "18", "69 18 16 16"},
            {"16", "18", "130"},
            {"65", "0a", "69 0a 0 64"}, {"65", "1a", "69 12 64 1"}, {"0", "0e", "69 06 -1 0"},
        };
        for (String[] row : rows) {
            CHECKS.same("of " + row[0] + " block " + row[1], block(withContents(Integer.parseInt(row[0])), 7, row[1]), row[2]);
        }
    }

    private static int done(int code) {
        return code == DELETE ? 66 : 68;
    }

    private static void ifMatch() {
        CHECKS.sentence("POST, PUT, DELETE: 140, if it has options 1 and none of these is the resource's tag, or empty");
        Object[][] rows = {
            {"0001", true}, {"", true}, {"0000", false}, {"0002", false}, {"01", false}, {"00", false}, {"0100", false}, {"0101", false},
            {"000001", false}, {"000100", false}, {"00000001", false}, {"0000000000000001", false},
        };
        for (int code = POST; code <= DELETE; code++) {
            for (Object[] row : rows) {
                Desk d = withContents(2);
                boolean met = (Boolean) row[1];
                CHECKS.same("code " + code + ", 1 = " + row[0], d.ask(code, 2, "a").option(1, (String) row[0]).payload("x").served(0),
                    met ? done(code) : 140);
                CHECKS.same("what is sent", d.atHand(), met ? code == DELETE ? "60420002" : "60440002420002" : "608c0002");
                CHECKS.same("the resource", d.resources(), !met ? "1:2:1" : code == DELETE ? "" : code == PUT ? "1:1:2" : "1:3:2");
            }
            for (int place = 0; place < 19; place++) {
                Desk d = withContents(2);
                d.ask(code, 2, "a");
                for (int k = 0; k < 19; k++) {
                    d.option(1, k == place ? (place % 2 == 0 ? "0001" : "") : "0009");
                }
                CHECKS.same("code " + code + ", number " + place + " of 19 is met", d.served(0), done(code));
            }
        }
    }

    private static void ifMatchWithout() {
        CHECKS.sentence("POST, PUT, DELETE: 140, if it has options 1, or there is no resource");
        for (int code = POST; code <= DELETE; code++) {
            Desk d = withContents(2);
            CHECKS.same("code " + code + ", empty", d.ask(code, 2, "b").option(1, "").served(0), 140);
            CHECKS.same("code " + code + ", a tag of another", d.ask(code, 3, "b").option(1, "0001").served(0), 140);
            CHECKS.same("code " + code + ", the next tag", d.ask(code, 4, "b").option(1, "0002").served(0), 140);
            CHECKS.same("code " + code + ", no options 1", d.ask(code, 5, "b").served(0), code == POST ? 132 : code == PUT ? 65 : 66);
            CHECKS.same("the others were refused", d.desk.total(1), code == PUT ? 2 : 1);
        }
    }

    private static void ifNoneMatch() {
        CHECKS.sentence("POST, PUT, DELETE: 140, or an option 5, and there is one");
        for (int code = POST; code <= DELETE; code++) {
            Desk d = withContents(2);
            CHECKS.same("code " + code + " with one", d.ask(code, 2, "a").option(5, "").payload("x").served(0), 140);
            CHECKS.same("what is sent", d.atHand(), "608c0002");
            CHECKS.same("and a value", d.ask(code, 3, "a").option(5, "ff").served(0), 140);
            CHECKS.same("and a 1 that is met", d.ask(code, 4, "a").option(5, "").option(1, "0001").served(0), 140);
            CHECKS.same("and a 1 that is empty", d.ask(code, 5, "a").option(5, "").option(1, "").served(0), 140);
            CHECKS.same("nothing is changed", d.resources(), "1:2:1");
            CHECKS.same("without one, and a 1", d.ask(code, 6, "b").option(5, "").option(1, "").served(0), 140);
            CHECKS.same("without one", d.ask(code, 7, "b").option(5, "").served(0), code == POST ? 132 : code == PUT ? 65 : 66);
            CHECKS.same("GET with one", d.ask(GET, 8, "a").option(5, "").option(1, "0009").served(0), 69);
        }
    }

    private static void twentyConditions() {
        CHECKS.sentence("GET, POST, PUT, DELETE: one of its options 4; none of these options 1 (as many as it can have)");
        for (int code = GET; code <= DELETE; code++) {
            int number = code == GET ? 4 : 1;
            int met = code == GET ? 67 : done(code);
            int unmet = code == GET ? 69 : 140;
            Desk d = new Desk().begun(0, PUT, 1);
            d.served(0);
            d.begun(0, code, 2);
            for (int k = 0; k < 20; k++) {
                d.option(number, "0009");
            }
            CHECKS.same("code " + code + ", 20 that are not met", d.served(0), unmet);
            CHECKS.same("none is left of another message", d.begun(0, code, 3).option(number, "0009").option(number, "0001")
                .fed("40" + Desk.hex(code) + "0004" + (code == GET ? "420009" : "120009")).desk.serve(0), unmet);
            CHECKS.same("one of two", d.begun(0, code == DELETE ? PUT : code, 5).option(number, "0009").option(number, "0001").served(0),
                code == DELETE ? 68 : met);
            CHECKS.same("none is left of the one before", d.begun(0, code, 6).option(number, "0009").served(0), unmet);
        }
    }

    private static void contentsAreKept() {
        CHECKS.sentence("PUT: the payload becomes the contents (and they stay, whatever the message and the bytes become)");
        Desk d = new Desk();
        d.ask(PUT, 1, "a").payload("xy").served(0);
        d.desk.payload('z', 1);
        d.option(11, "62");
        d.desk.longer('c', 1);
        d.ask(GET, 2, "a").served(0);
        String sent = d.atHand();
        CHECKS.same("the contents", sent, "60450002" + "420001" + "ff7879");
        d.desk.read();
        d.desk.payload('z', 1);
        d.desk.end(5);
        d.desk.feed(-1L, 8);
        CHECKS.same("what was sent", d.ask(GET, 2, "a").served(0), 69);
        CHECKS.same("its bytes", d.atHand(), sent);
        d.ask(GET, 3, "a").served(0);
        CHECKS.same("the contents then", d.atHand(), "60450003" + "420001" + "ff7879");
        d.ask(PUT, 4, "b").payload("uvw").served(0);
        d.ask(DELETE, 5, "a").served(0);
        d.ask(PUT, 6, "c").payload("q").served(0);
        d.ask(GET, 7, "b").served(0);
        CHECKS.same("those of another", d.atHand(), "60450007" + "420002" + "ff757677");
        d.ask(GET, 8, "c").served(0);
        CHECKS.same("those of a third", d.atHand(), "60450008" + "420003" + "ff71");
    }

    private static void putContents() {
        CHECKS.sentence("PUT: the payload becomes the contents; otherwise 68, with its tag");
        int[] lengths = {0, 1, 400, 399, 400, 0, 400};
        Desk d = withContents(3);
        for (int i = 0; i < lengths.length; i++) {
            CHECKS.same("of " + lengths[i], d.ask(PUT, 2 + i, "a").counted(lengths[i]).served(0), 68);
            CHECKS.same("what is sent", d.desk.total(0) + " " + d.desk.hand(6), 7 + " " + (2 + i));
            CHECKS.same("the contents", d.desk.resource(0, 1), lengths[i]);
        }
        d.ask(GET, 20, "a").option(23, "06").served(0);
        CHECKS.same("the first of 400", d.desk.hand(11), 0);
        CHECKS.same("the last of 400", d.desk.hand(410), 143);
        d.ask(PUT, 21, "a").payload("zy").served(0);
        d.ask(GET, 22, "a").served(0);
        CHECKS.same("2 in place of 400", d.atHand(), "60450016" + "420009" + "ff7a79");
    }

    private static void putMade() {
        CHECKS.sentence("PUT: a resource that was not there is made: 65 then, with its tag");
        for (int n : new int[] {0, 1, 400}) {
            Desk d = new Desk();
            CHECKS.same("of " + n, d.ask(PUT, 1, "a").counted(n).served(0), 65);
            CHECKS.same("what is sent", d.atHand(), "60410001420001");
            CHECKS.same("the resource", d.resources(), "1:" + n + ":1");
            CHECKS.same("again", d.ask(PUT, 2, "a").counted(n).served(0), 68);
            CHECKS.same("no other is made", d.resources(), "1:" + n + ":2");
        }
    }

    private static Desk withSixteen() {
        Desk d = new Desk();
        for (int k = 0; k < 16; k++) {
            CHECKS.same("resource " + k, d.ask(PUT, k, "" + (char) ('a' + k)).served(0), 65);
        }
        return d;
    }

    private static void sixteen() {
        CHECKS.sentence("RESOURCES, 16 at most; PUT: (143 if there are 16)");
        Desk d = withSixteen();
        CHECKS.same("there are 16", d.desk.total(1), 16);
        CHECKS.same("a 17th", d.ask(PUT, 100, "z").payload("x").served(0), 143);
        CHECKS.same("what is sent", d.atHand(), "608f0064");
        CHECKS.same("it is not made", d.totals(), "16 16 17 0 0");
        CHECKS.same("a 17th again", d.ask(PUT, 101, "z").served(0), 143);
        CHECKS.same("the first of 16", d.ask(PUT, 102, "a").served(0), 68);
        CHECKS.same("the last of 16", d.ask(PUT, 103, "p").served(0), 68);
        CHECKS.same("POST to the last of 16", d.ask(POST, 104, "p").served(0), 68);
        CHECKS.same("POST to a 17th", d.ask(POST, 105, "z").served(0), 132);
        CHECKS.same("DELETE of a 17th", d.ask(DELETE, 106, "z").served(0), 66);
        CHECKS.same("still there is no room", d.ask(PUT, 107, "z").served(0), 143);
        CHECKS.same("DELETE of the last", d.ask(DELETE, 108, "p").served(0), 66);
        CHECKS.same("there is room", d.ask(PUT, 109, "z").served(0), 65);
        CHECKS.same("for one", d.ask(PUT, 110, "y").served(0), 143);
        CHECKS.same("with an option 5", d.ask(PUT, 111, "y").option(5, "").served(0), 143);
        CHECKS.same("140 before 143", d.ask(PUT, 112, "y").option(1, "").served(0), 140);
        CHECKS.same("140 of one that is there", d.ask(PUT, 113, "z").option(5, "").served(0), 140);
    }

    private static void postWithout() {
        CHECKS.sentence("POST: 132 without a resource");
        Desk d = new Desk();
        CHECKS.same("of none", d.ask(POST, 1, "a").payload("x").served(0), 132);
        CHECKS.same("what is sent", d.atHand(), "60840001");
        CHECKS.same("none is made", d.totals(), "0 0 1 0 0");
        CHECKS.same("with an option 5", d.ask(POST, 2, "a").option(5, "").payload("x").served(0), 132);
        CHECKS.same("with 400 bytes", d.ask(POST, 3, "a").counted(400).served(0), 132);
    }

    private static void postLimit() {
        CHECKS.sentence("POST: the payload comes behind the contents: 141 if they would be longer than 400, else 68 with its tag");
        int[][] rows = {
            {0, 0, 68}, {0, 400, 68}, {1, 399, 68}, {1, 400, 141}, {2, 399, 141}, {200, 200, 68}, {200, 201, 141}, {399, 0, 68},
            {399, 1, 68}, {399, 2, 141}, {400, 0, 68}, {400, 1, 141}, {400, 400, 141},
        };
        for (int[] row : rows) {
            String name = row[0] + " and " + row[1];
            Desk d = withContents(row[0]);
            boolean fits = row[2] == 68;
            CHECKS.same(name, d.ask(POST, 2, "a").counted(row[1]).served(0), row[2]);
            CHECKS.same("what is sent for " + name, d.atHand(), fits ? "60440002420002" : "608d0002");
            CHECKS.same("the resource", d.resources(), fits ? "1:" + (row[0] + row[1]) + ":2" : "1:" + row[0] + ":1");
            CHECKS.same("the counts", d.totals(), fits ? "1 2 2 0 0" : "1 1 2 0 0");
        }
        Desk d = withContents(3);
        d.ask(POST, 2, "a").payload("xy").served(0);
        d.ask(POST, 3, "a").payload("z").served(0);
        d.ask(GET, 4, "a").served(0);
        CHECKS.same("in their order", d.atHand(), "60450004" + "420003" + "ff00010278797a");
    }

    private static void deleteGoes() {
        CHECKS.sentence("DELETE: the resource goes, 66");
        for (int gone = 0; gone < 16; gone += 5) {
            Desk d = withSixteen();
            String path = "" + (char) ('a' + gone);
            CHECKS.same("number " + gone, d.ask(DELETE, 100, path).served(0), 66);
            CHECKS.same("what is sent", d.atHand(), "60420064");
            CHECKS.same("how many there are", d.desk.total(1), 15);
            CHECKS.same("it is gone", d.ask(GET, 101, path).served(0), 132);
            for (int k = 0; k < 15; k++) {
                CHECKS.same("the tag of number " + k, d.desk.resource(k, 2), k < gone ? k + 1 : k + 2);
            }
            CHECKS.illegalArgument("resource(15, 0)", () -> d.desk.resource(15, 0));
            CHECKS.same("made again", d.ask(PUT, 102, path).served(0), 65);
            CHECKS.same("it is the last", d.desk.resource(15, 2), 17);
            CHECKS.same("without its contents", d.desk.resource(15, 1), 0);
        }
    }

    private static void deleteWithout() {
        CHECKS.sentence("DELETE: 66 (without one as well)");
        Desk d = new Desk();
        CHECKS.same("of none", d.ask(DELETE, 1, "").served(0), 66);
        CHECKS.same("what is sent", d.atHand(), "60420001");
        d.ask(PUT, 2, "a").served(0);
        CHECKS.same("of another", d.ask(DELETE, 3, "b").served(0), 66);
        CHECKS.same("that stays", d.resources(), "1:0:1");
        CHECKS.same("of it", d.ask(DELETE, 4, "a").served(0), 66);
        CHECKS.same("of it, twice", d.ask(DELETE, 5, "a").served(0), 66);
        CHECKS.same("none is left", d.totals(), "0 1 5 0 0");
    }

    private static void tagsGoUp() {
        CHECKS.sentence("RESOURCES: a count that goes up by 1 (from 1 on) whenever a PUT or POST is answered with 65 or 68");
        Desk d = new Desk();
        CHECKS.same("before all", d.desk.total(2), 0);
        d.ask(PUT, 1, "a").payload("x").served(0);
        CHECKS.same("65", d.desk.total(2) + " " + d.resources(), "1 1:1:1");
        d.ask(PUT, 2, "a").payload("x").served(0);
        CHECKS.same("68, the same bytes", d.desk.total(2) + " " + d.resources(), "2 1:1:2");
        d.ask(POST, 3, "a").served(0);
        CHECKS.same("68, nothing behind them", d.desk.total(2) + " " + d.resources(), "3 1:1:3");
        d.ask(PUT, 4, "b").served(0);
        CHECKS.same("65, another", d.desk.total(2) + " " + d.resources(), "4 1:1:3 1:0:4");
        d.ask(POST, 5, "a").payload("y").served(0);
        CHECKS.same("68, the first", d.desk.total(2) + " " + d.resources(), "5 1:2:5 1:0:4");
        d.ask(DELETE, 6, "b").served(0);
        d.ask(PUT, 7, "b").served(0);
        CHECKS.same("65, made again", d.desk.total(2) + " " + d.resources(), "6 1:2:5 1:0:6");
    }

    private static void tagsStay() {
        CHECKS.sentence("RESOURCES: (the count stays, if the answer is another)");
        Desk d = withContents(400);
        CHECKS.same("66", d.ask(DELETE, 2, "z").served(0), 66);
        CHECKS.same("67", d.ask(GET, 3, "a").option(4, "0001").served(0), 67);
        CHECKS.same("69", d.ask(GET, 4, "a").served(0), 69);
        CHECKS.same("130", d.ask(PUT, 5, "a").option(7, "").served(0), 130);
        CHECKS.same("132", d.ask(POST, 6, "z").served(0), 132);
        CHECKS.same("133", d.ask(5, 7, "a").served(0), 133);
        CHECKS.same("140", d.ask(PUT, 8, "a").option(5, "").served(0), 140);
        CHECKS.same("141", d.ask(POST, 9, "a").payload("x").served(0), 141);
        CHECKS.same("repeated", d.ask(PUT, 9, "a").served(0), 141);
        CHECKS.same("another peer's reset", d.begun(0, 0, 1).served(1), 0);
        CHECKS.same("the tag", d.desk.total(2) + " " + d.resources(), "1 1:400:1");
        Desk full = withSixteen();
        CHECKS.same("143", full.ask(PUT, 30, "z").served(0), 143);
        CHECKS.same("the count", full.desk.total(2), 16);
    }

    private static void pathValues() {
        CHECKS.sentence("RESOURCES: a PATH (a row of values, as those of the options 11 are, in order)");
        String[] paths = {"", "/", "//", "a", "a/", "/a", "a/b", "b/a", "ab", "a/b/", "ab/", "a//b", "\0", "\0/\0", "\1/", "a/a"};
        Desk d = new Desk();
        for (int k = 0; k < paths.length; k++) {
            CHECKS.same("path " + k, d.ask(PUT, k, paths[k]).served(0), 65);
        }
        for (int k = 0; k < paths.length; k++) {
            CHECKS.same("the tag of path " + k, d.ask(GET, 100 + k, paths[k]).served(1) + " " + d.desk.hand(6), "69 " + (k + 1));
            CHECKS.same("values of path " + k, d.desk.resource(k, 0), paths[k].isEmpty() ? 0 : paths[k].split("/", -1).length);
        }
        Desk other = new Desk();
        other.begun(0, PUT, 1).option(11, "62").option(0, "").option(15, "ff").option(11, "61").served(0);
        CHECKS.same("other options are not of it", other.ask(PUT, 2, "b/a").option(4, "61").option(12, "63").served(0), 68);
        CHECKS.same("nor is their order", other.ask(GET, 3, "a/b").served(0), 132);
    }

    /** Values whose bytes could be taken for the lengths of others. */
    private static void pathLengths() {
        CHECKS.sentence("RESOURCES: a PATH, a row of values, each of them of 0 to 400 bytes");
        String[][] paths = {
            {"", "00".repeat(256)}, {"00".repeat(256), ""}, {"01" + "00".repeat(255), ""}, {"00".repeat(255), "00"},
            {"00", "00".repeat(255)},
            {"00".repeat(256)}, {"00".repeat(255)}, {"00".repeat(257)}, {"00".repeat(400)}, {"00".repeat(144)}, {"0090" + "00".repeat(144)},
        };
        Desk d = new Desk();
        for (int k = 0; k < paths.length; k++) {
            d.begun(0, PUT, k);
            for (String value : paths[k]) {
                d.option(11, value);
            }
            CHECKS.same("path " + k, d.served(0), 65);
        }
    }

    private static void pathLongest() {
        CHECKS.sentence("RESOURCES: a PATH as long as the bytes at hand can tell");
        Desk d = new Desk().begun(0, PUT, 1).longOption(11, 400);
        CHECKS.same("a value of 400", d.served(0), 65);
        d.desk.write();
        d.desk.end(407 - 1);
        d.desk.feed(0, 1);
        CHECKS.same("another in its last byte", d.desk.serve(1), 65);
        d.begun(0, PUT, 2).longOption(11, 399);
        CHECKS.same("a shorter one", d.served(0), 65);
        Desk twenty = new Desk().begun(0, PUT, 1);
        for (int k = 0; k < 20; k++) {
            twenty.longOption(11, k < 16 ? 98 : 97);
        }
        CHECKS.same("2000 bytes", twenty.desk.write(), 2000);
        CHECKS.same("20 values", twenty.desk.serve(0), 65);
        twenty.desk.write();
        twenty.desk.end(1999);
        twenty.desk.feed(0, 1);
        CHECKS.same("another in its last byte of all", twenty.desk.serve(1), 65);
        CHECKS.same("the first again", twenty.served(2), 68);
        CHECKS.same("their values", twenty.resources(), "20:0:3 20:0:2");
    }

    private static void order() {
        CHECKS.sentence("16: Of resource k, the one made first of all first");
        Desk d = new Desk();
        for (String path : new String[] {"c", "a", "b", "", "a/b/c"}) {
            d.ask(PUT, 10 + path.length(), path).payload(path).served(path.isEmpty() ? 9 : path.charAt(0) - 'a');
        }
        CHECKS.same("as they were made", d.resources(), "1:1:1 1:1:2 1:1:3 0:0:4 3:5:5");
        d.ask(PUT, 20, "c").payload("xyz").served(0);
        CHECKS.same("a change leaves it in its place", d.resources(), "1:3:6 1:1:2 1:1:3 0:0:4 3:5:5");
        d.ask(DELETE, 21, "a").served(0);
        d.ask(PUT, 22, "a").payload("xyzv").served(0);
        CHECKS.same("made again it is the last", d.resources(), "1:3:6 1:1:3 0:0:4 3:5:5 1:4:7");
    }

    private static void totalWhat() {
        CHECKS.sentence("15: what = 0 .. 5; IllegalArgumentException");
        Desk d = new Desk();
        for (int what = 0; what <= 5; what++) {
            CHECKS.same("total(" + what + ")", d.desk.total(what), 0);
        }
        CHECKS.illegalArgument("-1", () -> d.desk.total(-1));
        CHECKS.illegalArgument("6", () -> d.desk.total(6));
        for (int far : Checks.FAR) {
            CHECKS.illegalArgument("" + far, () -> d.desk.total(far));
        }
    }

    private static void totalCounts() {
        CHECKS.sentence("15: Bytes at hand, resources, the count of tags, requests served in all, without repeated ones, repeated ones");
        Desk d = new Desk();
        d.begun(1, PUT, 1).path("a").served(0);
        CHECKS.same("one", d.desk.total(0) + " " + d.totals(), "7 1 1 1 0 1");
        d.begun(1, PUT, 1).path("a").served(0);
        CHECKS.same("repeated", d.desk.total(0) + " " + d.totals(), "7 1 1 1 1 1");
        d.begun(1, PUT, 1).path("a").served(1);
        CHECKS.same("of another peer", d.desk.total(0) + " " + d.totals(), "7 1 2 2 1 2");
        d.begun(0, 31, 2).served(0);
        CHECKS.same("an error", d.desk.total(0) + " " + d.totals(), "4 1 2 3 1 2");
        d.begun(0, 32, 3).served(0);
        CHECKS.same("a reset", d.desk.total(0) + " " + d.totals(), "4 1 2 3 1 2");
        d.begun(1, 32, 4).served(0);
        CHECKS.same("nothing sent", d.desk.total(0) + " " + d.totals(), "0 1 2 3 1 2");
        CHECKS.same("2000 at hand", d.times(0, 2000).desk.total(0), 2000);
    }

    private static void resourceArguments() {
        CHECKS.sentence("16: how long its path is, in values (what = 0), contents (1), its tag as a number (2); IllegalArgumentException");
        Desk d = new Desk();
        CHECKS.illegalArgument("0 of none", () -> d.desk.resource(0, 0));
        for (int k = 0; k < 16; k++) {
            d.ask(PUT, k, "" + (char) ('a' + k)).served(0);
            int behind = k + 1;
            CHECKS.same("number " + k, d.desk.resource(k, 2), k + 1);
            CHECKS.illegalArgument("number " + behind, () -> d.desk.resource(behind, 2));
        }
        for (int k : new int[] {0, 15}) {
            CHECKS.illegalArgument("resource(" + k + ", -1)", () -> d.desk.resource(k, -1));
            CHECKS.illegalArgument("resource(" + k + ", 3)", () -> d.desk.resource(k, 3));
        }
        CHECKS.illegalArgument("-1", () -> d.desk.resource(-1, 0));
        for (int far : Checks.FAR) {
            CHECKS.illegalArgument("k " + far, () -> d.desk.resource(far, 0));
            CHECKS.illegalArgument("what " + far, () -> d.desk.resource(0, far));
        }
        for (int k = 15; k >= 0; k--) {
            d.ask(DELETE, 100 + k, "" + (char) ('a' + k)).served(0);
            int gone = k;
            CHECKS.illegalArgument("number " + gone + " is gone", () -> d.desk.resource(gone, 0));
        }
    }

    /** No run of 512 calls has more requests than this one. */
    private static void lastCalls() {
        CHECKS.sentence("An object is used for at most 512 calls");
        Desk d = new Desk();
        int served = 0;
        for (int id = 0; id < 24; id++) {
            d.begun(1, PUT, id);
            for (int peer = 0; peer <= 9; peer++) {
                CHECKS.same("request " + served, d.served(peer), served == 0 ? 65 : 68);
                served++;
            }
        }
        CHECKS.same("the tags", d.desk.total(2), 240);
        CHECKS.same("the requests", d.desk.total(3), 240);
        CHECKS.same("the next own ID", d.desk.total(5), 240);
        CHECKS.same("the tag", d.atHand(4, 7), "4200f0");
        CHECKS.same("the calls", d.desk.calls(), 510);
        CHECKS.same("the 511th", d.desk.hand(6), 240);
        CHECKS.same("the 512th", d.desk.resource(0, 2), 240);
    }
}
