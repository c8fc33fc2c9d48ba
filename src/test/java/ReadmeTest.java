import java.io.IOException;
import java.nio.file.Files;
import java.nio.file.Path;
import java.util.ArrayList;
import java.util.List;
import java.util.TreeSet;
import java.util.regex.Matcher;
import java.util.regex.Pattern;
import java.util.stream.Stream;

/** What README.md says is so: its examples, which stand here line for line, and its list of tests. */
public final class ReadmeTest {
    private static final Checks CHECKS = new Checks();
    private static final Path README = Path.of("README.md");
    private static final Path TESTS = Path.of("src/test/java");

    public static void main(String[] args) throws IOException {
        requestIsServed();
        bytesAreRead();
        contentsComeInBlocks();
        examplesStandHere();
        testsAreNamed();
        CHECKS.finish();
    }

    private static void requestIsServed() {
        CHECKS.sentence("A request is put together, written and served, and the answer is read");
        CoapDesk desk = new CoapDesk();
        desk.begin(0, 3, 1, 7L, 1);               // a confirmable PUT with ID 1 and the token 07
        desk.option(11, 'a', 1);                  // of the path "a"
        desk.payload('h' | 'i' << 8, 2);          // with the contents "hi"
        int written = desk.write();               // 10 bytes at hand
        int code = desk.serve(3);                 // 65: the resource is made
        int options = desk.read();                // 1: the answer is the message now, with one option
        int number = desk.optionAt(0, 0);         // 4: its tag
        int tag = desk.optionAt(0, 2);            // 1
        CHECKS.same("written", written, 10);
        CHECKS.same("code", code, 65);
        CHECKS.same("options", options, 1);
        CHECKS.same("number", number, 4);
        CHECKS.same("tag", tag, 1);
        CHECKS.same("the token", desk.byteOf(CoapDesk.NONE, 0), 7);
        CHECKS.same("the contents", desk.resource(0, 1), 2);
    }

    private static void bytesAreRead() {
        CHECKS.sentence("Bytes from elsewhere are fed and read; a fault leaves the message begun as it was");
        CoapDesk other = new CoapDesk();
        int fed = other.feed(0x1234_01_51L, 4);   // 4 bytes: 51 01 34 12
        int fault = other.read();                 // -3: the token's one byte is not there
        CHECKS.same("the ID that was not read", other.about(2), 0);
        int more = other.feed(0x61_b1_99L, 3);    // 7 bytes: the token 99, and an option 11 with the value 61
        int found = other.read();                 // 1 option
        int id = other.about(2);                  // 13330, which is 0x3412
        int letter = other.byteOf(0, 0);          // 97, which is 'a'
        int behind = other.byteOf(0, 1);          // -1: NONE, there is no such byte
        CHECKS.same("fed", fed, 4);
        CHECKS.same("fault", fault, -3);
        CHECKS.same("more", more, 7);
        CHECKS.same("found", found, 1);
        CHECKS.same("id", id, 13330);
        CHECKS.same("its bytes", id, 0x3412);
        CHECKS.same("letter", letter, 97);
        CHECKS.same("behind", behind, -1);
        CHECKS.same("the token", other.byteOf(-1, 0), 0x99);
        CHECKS.same("the option", other.optionAt(0, 0), 11);
    }

    private static void contentsComeInBlocks() {
        CHECKS.sentence("Contents of more than 64 bytes come in blocks");
        CoapDesk server = new CoapDesk();
        server.begin(0, 3, 1, 0L, 0);             // a PUT of the empty path
        for (int i = 0; i < 10; i++) {
            server.payload(0x0706050403020100L, 8);
        }
        server.write();
        int made = server.serve(0);               // 65
        server.begin(0, 1, 2, 0L, 0);             // a GET of it
        server.write();
        int got = server.serve(0);                // 69
        server.read();
        int first = server.about(5);              // 64 bytes of payload
        int told = server.optionAt(1, 2);         // 10: block 0, more behind, size 2
        server.begin(0, 1, 3, 0L, 0);
        server.option(23, 16 + 2, 1);             // block 1 of that size
        server.write();
        server.serve(0);
        server.read();
        int rest = server.about(5);               // 16 bytes of payload
        CHECKS.same("made", made, 65);
        CHECKS.same("got", got, 69);
        CHECKS.same("first", first, 64);
        CHECKS.same("told", told, 10);
        CHECKS.same("rest", rest, 16);
    }

    /** The lines of README.md's Java examples, without the spaces round them. */
    private static List<String> exampleLines() throws IOException {
        List<String> lines = new ArrayList<>();
        boolean inside = false;
        for (String line : Files.readAllLines(README)) {
            if (line.startsWith("```")) {
                inside = line.equals("```java");
            } else if (inside && !line.isBlank()) {
                lines.add(line.strip());
            }
        }
        return lines;
    }

    private static void examplesStandHere() throws IOException {
        CHECKS.sentence("The examples of README.md are the ones that are run here");
        List<String> here = Files.readAllLines(TESTS.resolve("ReadmeTest.java"));
        int place = 0;
        int found = 0;
        List<String> lines = exampleLines();
        for (String line : lines) {
            while (place < here.size() && !here.get(place).strip().equals(line)) {
                place++;
            }
            CHECKS.same(line, place < here.size() ? 1 : 0, 1);
            found += place < here.size() ? 1 : 0;
            place++;
        }
        CHECKS.same("lines of three examples", found, 36);
    }

    private static void testsAreNamed() throws IOException {
        CHECKS.sentence("README.md names every test, and no other");
        TreeSet<String> there = new TreeSet<>();
        try (Stream<Path> files = Files.list(TESTS)) {
            files.map(file -> file.getFileName().toString()).filter(name -> name.endsWith("Test.java"))
                .forEach(name -> there.add(name.replace(".java", "")));
        }
        TreeSet<String> named = new TreeSet<>();
        Matcher matcher = Pattern.compile("`(\\w+Test)`").matcher(Files.readString(README));
        while (matcher.find()) {
            named.add(matcher.group(1));
        }
        CHECKS.same("the tests", named.toString(), there.toString());
    }
}
