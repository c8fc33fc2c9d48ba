/**
 * Messages of a public protocol for small devices, read strictly and written in one way,
 * and a server of resources that answers them.
 */
public final class CoapDesk {
    public static final int NONE = -1;

    private static final int MOST_AT_HAND = 2000;
    private static final int MOST_IN_PART = 400;
    private static final int MOST_IN_TOKEN = 8;
    private static final int MOST_IN_WORD = 8;
    private static final int MOST_OPTIONS = 20;
    private static final int MOST_RESOURCES = 16;
    private static final int HIGHEST_TYPE = 3;
    private static final int HIGHEST_CODE = 255;
    private static final int HIGHEST_NUMBER = 65535;
    private static final int HEAD = 4;
    private static final int PAYLOAD_MARK = 255;
    private static final int TOKEN_PART = NONE;
    private static final int PAYLOAD_PART = -2;

    /** What a difference or length of this much is told with: one byte more, or two. */
    private static final int ONE_MORE = 13;
    private static final int TWO_MORE = 269;

    private static final int CONFIRMABLE = 0;
    private static final int NOT_CONFIRMABLE = 1;
    private static final int ACKNOWLEDGEMENT = 2;
    private static final int RESET = 3;

    private static final int EMPTY = 0;
    private static final int GET = 1;
    private static final int POST = 2;
    private static final int PUT = 3;
    private static final int DELETE = 4;
    private static final int HIGHEST_REQUEST = 31;

    private final Bytes atHand = new Bytes(MOST_AT_HAND);
    private final Reader reader = new Reader();
    private final Server server = new Server();
    private Message begun = new Message(MOST_OPTIONS);
    /** What is read goes here first, so that a fault leaves the message begun as it was. */
    private Message spare = new Message(MOST_OPTIONS);

    public CoapDesk() {
    }

    public void begin(int type, int code, int id, long token, int n) throws IllegalArgumentException {
        boolean headFits = within(type, HIGHEST_TYPE) && within(code, HIGHEST_CODE) && within(id, HIGHEST_NUMBER);
        if (!headFits || !within(n, MOST_IN_TOKEN)) {
            throw new IllegalArgumentException("type, code, id or n is out of its range");
        }
        begun.restart(type, code, id);
        begun.token.addLowFirst(token, n);
    }

    public int option(int number, long w, int n) throws IllegalArgumentException, IllegalStateException {
        if (!within(number, HIGHEST_NUMBER) || !within(n, MOST_IN_WORD)) {
            throw new IllegalArgumentException("number or n is out of its range");
        }
        Option added = begun.put(number);
        if (added == null) {
            throw new IllegalStateException("there are 20 options");
        }
        added.value.addLowFirst(w, n);
        return begun.count;
    }

    public int longer(long w, int n) throws IllegalArgumentException, IllegalStateException {
        if (!within(n, MOST_IN_WORD)) {
            throw new IllegalArgumentException("n is not 0 .. 8");
        }
        Option latest = begun.latest;
        if (latest == null || !latest.value.hasRoom(n)) {
            throw new IllegalStateException("no option was put, or its value would be too long");
        }
        latest.value.addLowFirst(w, n);
        return latest.value.size;
    }

    public int payload(long w, int n) throws IllegalArgumentException, IllegalStateException {
        return extend(begun.body, w, n);
    }

    public int write() throws IllegalStateException {
        if (begun.writtenSize() > MOST_AT_HAND) {
            throw new IllegalStateException("more than 2000 bytes");
        }
        atHand.clear();
        begun.writeBehind(atHand);
        return atHand.size;
    }

    public int feed(long w, int n) throws IllegalArgumentException, IllegalStateException {
        return extend(atHand, w, n);
    }

    public void end(int n) throws IllegalArgumentException {
        if (!within(n, atHand.size)) {
            throw new IllegalArgumentException("there are not so many bytes at hand");
        }
        atHand.keepFirst(n);
    }

    public int read() throws UnsupportedOperationException {
        int found = reader.parse(atHand, spare);
        if (found > MOST_OPTIONS) {
            throw new UnsupportedOperationException("more than 20 options");
        }
        if (found >= 0) {
            Message before = begun;
            begun = spare;
            spare = before;
        }
        return found;
    }

    public int about(int what) throws IllegalArgumentException {
        switch (what) {
            case 0:
                return begun.type;
            case 1:
                return begun.code;
            case 2:
                return begun.id;
            case 3:
                return begun.token.size;
            case 4:
                return begun.count;
            case 5:
                return begun.body.size;
            default:
                throw new IllegalArgumentException("what is not 0 .. 5");
        }
    }

    public int byteOf(int part, int i) throws IllegalArgumentException {
        if (part == TOKEN_PART) {
            return begun.token.at(i);
        }
        if (part == PAYLOAD_PART) {
            return begun.body.at(i);
        }
        Option found = begun.at(part);
        if (found == null) {
            throw new IllegalArgumentException("there is no such part");
        }
        return found.value.at(i);
    }

    public int optionAt(int k, int what) throws IllegalArgumentException {
        Option found = begun.at(k);
        if (found == null || !within(what, 2)) {
            throw new IllegalArgumentException("there is no such option, or what is not 0 .. 2");
        }
        if (what == 0) {
            return found.number;
        }
        return what == 1 ? found.value.size : (int) found.value.wholeNumber();
    }

    public int serve(int peer) throws IllegalArgumentException {
        if (!within(peer, Server.HIGHEST_PEER)) {
            throw new IllegalArgumentException("there is no such peer");
        }
        int found = reader.parse(atHand, spare);
        atHand.clear();
        if (found < 0 || found > MOST_OPTIONS) {
            return NONE;
        }
        return server.take(spare, peer, atHand);
    }

    public int hand(int i) {
        return atHand.at(i);
    }

    public int total(int what) throws IllegalArgumentException {
        switch (what) {
            case 0:
                return atHand.size;
            case 1:
                return server.store.count;
            case 2:
                return server.store.tags;
            case 3:
                return server.served;
            case 4:
                return server.repeated;
            case 5:
                return server.nextId;
            default:
                throw new IllegalArgumentException("what is not 0 .. 5");
        }
    }

    public int resource(int k, int what) throws IllegalArgumentException {
        Resource found = server.store.at(k);
        if (found == null || !within(what, 2)) {
            throw new IllegalArgumentException("there is no such resource, or what is not 0 .. 2");
        }
        if (what == 0) {
            return found.pathLength;
        }
        return what == 1 ? found.contents.size : found.tag;
    }

    private static boolean within(int number, int highest) {
        return number >= 0 && number <= highest;
    }

    private static int extend(Bytes row, long w, int n) {
        if (!within(n, MOST_IN_WORD)) {
            throw new IllegalArgumentException("n is not 0 .. 8");
        }
        if (!row.hasRoom(n)) {
            throw new IllegalStateException("there would be too many bytes");
        }
        row.addLowFirst(w, n);
        return row.size;
    }

    /** A row of bytes, made once with room for the longest that it may become. */
    private static final class Bytes {
        private final byte[] cells;
        private int size;

        Bytes(int room) {
            cells = new byte[room];
        }

        int at(int i) {
            return i >= 0 && i < size ? cells[i] & 255 : NONE;
        }

        boolean hasRoom(int n) {
            return n <= cells.length - size;
        }

        void clear() {
            size = 0;
        }

        void keepFirst(int n) {
            if (n >= 0 && n < size) {
                size = n;
            }
        }

        void add(int octet) {
            if (size < cells.length) {
                cells[size] = (byte) octet;
                size++;
            }
        }

        void addLowFirst(long word, int n) {
            for (int i = 0; i < n && size < cells.length; i++) {
                cells[size] = (byte) (word >>> (8 * i));
                size++;
            }
        }

        void addHighFirst(int number, int n) {
            for (int i = n - 1; i >= 0 && size < cells.length; i--) {
                cells[size] = (byte) (number >>> (8 * i));
                size++;
            }
        }

        void addPart(Bytes other, int from, int n) {
            if (from >= 0 && n > 0 && n <= other.size - from && hasRoom(n)) {
                System.arraycopy(other.cells, from, cells, size, n);
                size += n;
            }
        }

        void addAll(Bytes other) {
            addPart(other, 0, other.size);
        }

        boolean isSameAs(Bytes other) {
            if (size != other.size) {
                return false;
            }
            for (int i = 0; i < size; i++) {
                if (at(i) != other.at(i)) {
                    return false;
                }
            }
            return true;
        }

        boolean isTag(int tag) {
            return size == 2 && wholeNumber() == tag;
        }

        /** The WHOLE NUMBER of the document, without a sign; NONE if it is none. */
        long wholeNumber() {
            if (size > 4) {
                return NONE;
            }
            long number = 0;
            for (int i = 0; i < size; i++) {
                number = number * 256 + at(i);
            }
            return number;
        }
    }

    private static final class Option {
        private final Bytes value = new Bytes(MOST_IN_PART);
        private int number;
    }

    private static final class Message {
        private final Bytes token = new Bytes(MOST_IN_TOKEN);
        private final Bytes body = new Bytes(MOST_IN_PART);
        /** The first of them, as many as the count says, are in use and in order. */
        private final Option[] options;
        private int count;
        /** The option put latest, null if none was put since the message was begun or read. */
        private Option latest;
        private int type;
        private int code;
        private int id;

        Message(int mostOptions) {
            options = new Option[mostOptions];
            for (int k = 0; k < mostOptions; k++) {
                options[k] = new Option();
            }
        }

        void restart(int newType, int newCode, int newId) {
            type = newType;
            code = newCode;
            id = newId;
            token.clear();
            body.clear();
            count = 0;
            latest = null;
        }

        Option at(int k) {
            return k >= 0 && k < count ? options[k] : null;
        }

        /** The first option with that number, or null. */
        Option first(int number) {
            for (int k = 0; k < count; k++) {
                if (options[k].number == number) {
                    return options[k];
                }
            }
            return null;
        }

        /** A new option without a value, behind those with its number; null if there is no room. */
        Option put(int number) {
            if (count >= options.length) {
                return null;
            }
            Option added = options[count];
            int place = count;
            while (place > 0 && options[place - 1].number > number) {
                options[place] = options[place - 1];
                place--;
            }
            options[place] = added;
            added.number = number;
            added.value.clear();
            count++;
            latest = added;
            return added;
        }

        int writtenSize() {
            int sum = HEAD + token.size;
            int before = 0;
            for (int k = 0; k < count; k++) {
                int length = options[k].value.size;
                sum += 1 + moreBytes(options[k].number - before) + moreBytes(length) + length;
                before = options[k].number;
            }
            return body.size == 0 ? sum : sum + 1 + body.size;
        }

        void writeBehind(Bytes out) {
            out.add(64 + 16 * type + token.size);
            out.add(code);
            out.addHighFirst(id, 2);
            out.addAll(token);
            int before = 0;
            for (int k = 0; k < count; k++) {
                writeOption(options[k], before, out);
                before = options[k].number;
            }
            if (body.size > 0) {
                out.add(PAYLOAD_MARK);
                out.addAll(body);
            }
        }

        private static void writeOption(Option written, int before, Bytes out) {
            int difference = written.number - before;
            int length = written.value.size;
            out.add(16 * shortForm(difference) + shortForm(length));
            writeMore(difference, out);
            writeMore(length, out);
            out.addAll(written.value);
        }

        private static int moreBytes(int told) {
            if (told < ONE_MORE) {
                return 0;
            }
            return told < TWO_MORE ? 1 : 2;
        }

        private static int shortForm(int told) {
            return told < ONE_MORE ? told : 12 + moreBytes(told);
        }

        private static void writeMore(int told, Bytes out) {
            int more = moreBytes(told);
            out.addHighFirst(told - (more == 1 ? ONE_MORE : TWO_MORE), more);
        }
    }

    /** Goes through bytes from the first to the last, and stops at the first fault. */
    private static final class Reader {
        private static final int TOO_SHORT = -1;
        private static final int NOT_THIS_PROTOCOL = -2;
        private static final int WRONG_TOKEN = -3;
        private static final int WRONG_OPTION = -4;
        private static final int WRONG_PAYLOAD = -5;
        private static final int EMPTY_WITH_MORE = -6;

        private int place;
        private int number;

        /** How many options there are (the message holds those that it has room for), or the fault. */
        int parse(Bytes from, Message into) {
            int fault = parseHead(from, into);
            if (fault < 0) {
                return fault;
            }
            int found = 0;
            number = 0;
            for (int step = 0; step < from.size && place < from.size && from.at(place) != PAYLOAD_MARK; step++) {
                if (!parseOption(from, into)) {
                    return WRONG_OPTION;
                }
                found++;
            }
            into.latest = null;
            if (place < from.size && !parsePayload(from, into)) {
                return WRONG_PAYLOAD;
            }
            return into.code == EMPTY && from.size > HEAD ? EMPTY_WITH_MORE : found;
        }

        private int parseHead(Bytes from, Message into) {
            if (from.size < HEAD) {
                return TOO_SHORT;
            }
            int first = from.at(0);
            if (first >> 6 != 1) {
                return NOT_THIS_PROTOCOL;
            }
            int length = first & 15;
            if (length > MOST_IN_TOKEN || length > from.size - HEAD) {
                return WRONG_TOKEN;
            }
            into.restart(first >> 4 & 3, from.at(1), from.at(2) * 256 + from.at(3));
            into.token.addPart(from, HEAD, length);
            place = HEAD + length;
            return 0;
        }

        private boolean parseOption(Bytes from, Message into) {
            int first = from.at(place);
            place++;
            int difference = told(from, first >> 4);
            int length = told(from, first & 15);
            if (difference == NONE || length == NONE) {
                return false;
            }
            number += difference;
            if (number > HIGHEST_NUMBER || length > MOST_IN_PART || length > from.size - place) {
                return false;
            }
            Option added = into.put(number);
            if (added != null) {
                added.value.addPart(from, place, length);
            }
            place += length;
            return true;
        }

        /** What four bits tell together with the bytes behind them; NONE if they tell nothing. */
        private int told(Bytes from, int bits) {
            if (bits < 13) {
                return bits;
            }
            int more = bits - 12;
            if (more > 2 || more > from.size - place) {
                return NONE;
            }
            int first = from.at(place);
            int second = from.at(place + 1);
            place += more;
            return more == 1 ? ONE_MORE + first : TWO_MORE + 256 * first + second;
        }

        private boolean parsePayload(Bytes from, Message into) {
            int length = from.size - place - 1;
            into.body.addPart(from, place + 1, length);
            return length > 0 && length <= MOST_IN_PART;
        }
    }

    private static final class Resource {
        /** The values of a path come from bytes at hand, and each has two bytes for its length here. */
        private static final int MOST_IN_PATH = MOST_AT_HAND + 2 * MOST_OPTIONS;

        private final Bytes path = new Bytes(MOST_IN_PATH);
        private final Bytes contents = new Bytes(MOST_IN_PART);
        private int pathLength;
        private int tag;
    }

    /** The resources, in the order in which they were made. */
    private static final class Store {
        private final Resource[] resources = new Resource[MOST_RESOURCES];
        private int count;
        private int tags;

        Store() {
            for (int k = 0; k < MOST_RESOURCES; k++) {
                resources[k] = new Resource();
            }
        }

        Resource at(int k) {
            return k >= 0 && k < count ? resources[k] : null;
        }

        Resource find(Bytes path) {
            for (int k = 0; k < count; k++) {
                if (resources[k].path.isSameAs(path)) {
                    return resources[k];
                }
            }
            return null;
        }

        /** A new resource without contents, or null if there is no room for one. */
        Resource make(Bytes path, int pathLength) {
            if (count >= MOST_RESOURCES) {
                return null;
            }
            Resource made = resources[count];
            count++;
            made.path.clear();
            made.path.addAll(path);
            made.pathLength = pathLength;
            made.contents.clear();
            return made;
        }

        void remove(Resource gone) {
            int kept = 0;
            for (int k = 0; k < count; k++) {
                if (resources[k] != gone) {
                    resources[kept] = resources[k];
                    kept++;
                }
            }
            if (kept < count) {
                resources[kept] = gone;
                count = kept;
            }
        }

        void giveNextTag(Resource changed) {
            tags = (tags + 1) & 65535;
            changed.tag = tags;
        }
    }

    /** What was sent for one request. */
    private static final class Sent {
        /** Head, token, a tag with its head, a block number with its head, mark and payload. */
        private static final int MOST_IN_ANSWER = HEAD + MOST_IN_TOKEN + 3 + 5 + 1 + MOST_IN_PART;

        private final Bytes bytes = new Bytes(MOST_IN_ANSWER);
        private int id = NONE;
    }

    /** What was sent for the latest requests of one peer. */
    private static final class Peer {
        private static final int REMEMBERED = 8;

        private final Sent[] latest = new Sent[REMEMBERED];
        private int oldest;

        Peer() {
            for (int k = 0; k < REMEMBERED; k++) {
                latest[k] = new Sent();
            }
        }

        Sent find(int id) {
            for (int k = 0; k < REMEMBERED; k++) {
                if (latest[k].id == id) {
                    return latest[k];
                }
            }
            return null;
        }

        /** An empty place for what will be sent, instead of the oldest. */
        Sent remember(int id) {
            Sent place = latest[oldest];
            oldest = (oldest + 1) & (REMEMBERED - 1);
            place.id = id;
            place.bytes.clear();
            return place;
        }
    }

    private static final class Server {
        private static final int HIGHEST_PEER = 9;

        private static final int IF_MATCH = 1;
        private static final int TAG = 4;
        private static final int IF_NONE_MATCH = 5;
        private static final int PATH = 11;
        private static final int QUERY = 15;
        private static final int BLOCK = 23;

        private static final int CREATED = 65;
        private static final int DELETED = 66;
        private static final int VALID = 67;
        private static final int CHANGED = 68;
        private static final int CONTENT = 69;
        private static final int BAD_OPTION = 130;
        private static final int NOT_FOUND = 132;
        private static final int NO_SUCH_METHOD = 133;
        private static final int CONDITION_FAILED = 140;
        private static final int TOO_LONG = 141;
        private static final int NO_ROOM = 143;

        private static final int LONGEST_IF_MATCH = 8;
        private static final int HIGHEST_BLOCK = 1048575;
        private static final int MOST_WITHOUT_BLOCKS = 64;
        /** Block 0 of 64 bytes, for one who did not ask for blocks. */
        private static final int BLOCK_UNASKED = 2;

        private final Store store = new Store();
        private final Peer[] peers = new Peer[HIGHEST_PEER + 1];
        /** An answer has a tag and a block number at most. */
        private final Message answer = new Message(2);
        private final Bytes path = new Bytes(Resource.MOST_IN_PATH);
        private int pathLength;
        private int served;
        private int repeated;
        private int nextId;

        Server() {
            for (int k = 0; k <= HIGHEST_PEER; k++) {
                peers[k] = new Peer();
            }
        }

        /** The code of what is sent, with its bytes put out; NONE if nothing is sent. */
        int take(Message message, int peer, Bytes out) {
            if (message.type > NOT_CONFIRMABLE) {
                return NONE;
            }
            if (message.code == EMPTY || message.code > HIGHEST_REQUEST) {
                return message.type == CONFIRMABLE ? sendReset(message.id, out) : NONE;
            }
            Sent sent = peers[peer].find(message.id);
            if (sent != null) {
                repeated++;
            } else {
                served++;
                sent = peers[peer].remember(message.id);
                beginAnswer(message);
                answer.code = decide(message);
                answer.writeBehind(sent.bytes);
            }
            out.addAll(sent.bytes);
            return sent.bytes.at(1);
        }

        private int sendReset(int id, Bytes out) {
            answer.restart(RESET, EMPTY, id);
            answer.writeBehind(out);
            return EMPTY;
        }

        private void beginAnswer(Message request) {
            if (request.type == CONFIRMABLE) {
                answer.restart(ACKNOWLEDGEMENT, EMPTY, request.id);
            } else {
                answer.restart(NOT_CONFIRMABLE, EMPTY, nextId);
                nextId = (nextId + 1) & 65535;
            }
            answer.token.addAll(request.token);
        }

        /** Does what is asked for, if it may be, and finds the code of the answer. */
        private int decide(Message request) {
            if (hasBadOption(request)) {
                return BAD_OPTION;
            }
            if (request.code > DELETE) {
                return NO_SUCH_METHOD;
            }
            takePath(request);
            Resource found = store.find(path);
            if (request.code == GET) {
                return answerGet(request, found);
            }
            if (failsCondition(request, found)) {
                return CONDITION_FAILED;
            }
            if (request.code == POST) {
                return answerPost(request, found);
            }
            return request.code == PUT ? answerPut(request, found) : answerDelete(found);
        }

        private static boolean hasBadOption(Message request) {
            int noneMatches = 0;
            int blocks = 0;
            for (int k = 0; k < request.count; k++) {
                Option option = request.options[k];
                if (isBad(option)) {
                    return true;
                }
                noneMatches += option.number == IF_NONE_MATCH ? 1 : 0;
                blocks += option.number == BLOCK ? 1 : 0;
            }
            return noneMatches > 1 || blocks > 1;
        }

        private static boolean isBad(Option option) {
            switch (option.number) {
                case IF_MATCH:
                    return option.value.size > LONGEST_IF_MATCH;
                case BLOCK:
                    long block = option.value.wholeNumber();
                    return block == NONE || block > HIGHEST_BLOCK || (block & 7) == 7;
                case IF_NONE_MATCH:
                case PATH:
                case QUERY:
                    return false;
                default:
                    return (option.number & 1) == 1;
            }
        }

        /** The path as one row, each value behind its length, so that equal rows are equal paths. */
        private void takePath(Message request) {
            path.clear();
            pathLength = 0;
            for (int k = 0; k < request.count; k++) {
                Option option = request.options[k];
                if (option.number == PATH) {
                    path.addHighFirst(option.value.size, 2);
                    path.addAll(option.value);
                    pathLength++;
                }
            }
        }

        private static boolean failsCondition(Message request, Resource found) {
            if (found != null && request.first(IF_NONE_MATCH) != null) {
                return true;
            }
            if (request.first(IF_MATCH) == null) {
                return false;
            }
            return found == null || !matches(request, found.tag);
        }

        private static boolean matches(Message request, int tag) {
            for (int k = 0; k < request.count; k++) {
                Option option = request.options[k];
                if (option.number == IF_MATCH && (option.value.size == 0 || option.value.isTag(tag))) {
                    return true;
                }
            }
            return false;
        }

        private static boolean knowsTag(Message request, int tag) {
            for (int k = 0; k < request.count; k++) {
                Option option = request.options[k];
                if (option.number == TAG && option.value.isTag(tag)) {
                    return true;
                }
            }
            return false;
        }

        private int answerGet(Message request, Resource found) {
            if (found == null) {
                return NOT_FOUND;
            }
            if (knowsTag(request, found.tag)) {
                addNumber(TAG, found.tag, 2);
                return VALID;
            }
            Option asked = request.first(BLOCK);
            if (asked != null) {
                return answerBlock((int) asked.value.wholeNumber(), found);
            }
            if (found.contents.size > MOST_WITHOUT_BLOCKS) {
                return answerBlock(BLOCK_UNASKED, found);
            }
            addNumber(TAG, found.tag, 2);
            answer.body.addAll(found.contents);
            return CONTENT;
        }

        private int answerBlock(int asked, Resource found) {
            int sizeBits = asked & 7;
            int length = 16 << sizeBits;
            int block = asked >> 4;
            int start = block * length;
            int rest = found.contents.size - start;
            if (block > 0 && rest <= 0) {
                return BAD_OPTION;
            }
            int told = 16 * block + (rest > length ? 8 : 0) + sizeBits;
            addNumber(TAG, found.tag, 2);
            addNumber(BLOCK, told, fewestBytes(told));
            answer.body.addPart(found.contents, start, Math.min(rest, length));
            return CONTENT;
        }

        private static int fewestBytes(int number) {
            int n = 0;
            while (n < 4 && number >>> (8 * n) != 0) {
                n++;
            }
            return n;
        }

        private void addNumber(int option, int number, int n) {
            Option added = answer.put(option);
            if (added != null) {
                added.value.addHighFirst(number, n);
            }
        }

        private int answerPut(Message request, Resource found) {
            Resource target = found == null ? store.make(path, pathLength) : found;
            if (target == null) {
                return NO_ROOM;
            }
            target.contents.clear();
            return change(target, request.body, found == null ? CREATED : CHANGED);
        }

        private int answerPost(Message request, Resource found) {
            if (found == null) {
                return NOT_FOUND;
            }
            if (!found.contents.hasRoom(request.body.size)) {
                return TOO_LONG;
            }
            return change(found, request.body, CHANGED);
        }

        private int change(Resource target, Bytes added, int code) {
            target.contents.addAll(added);
            store.giveNextTag(target);
            addNumber(TAG, target.tag, 2);
            return code;
        }

        private int answerDelete(Resource found) {
            if (found != null) {
                store.remove(found);
            }
            return DELETED;
        }
    }
}
