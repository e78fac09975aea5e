import java.util.Arrays;

/** The boundary cases of promises 1 to 6: a new object, the TAPE, and the latest ANSWER. */
final class EdgeTapeTest {
    private static final int[] FAR = {Integer.MIN_VALUE, Integer.MIN_VALUE + 1, Integer.MAX_VALUE - 3,
        Integer.MAX_VALUE - 2, Integer.MAX_VALUE - 1, Integer.MAX_VALUE};

    public static void main(String[] args) {
        newObjectIsEmpty();
        feedUpTo1400();
        feedTakesTheHighestByteFirst();
        bendAtTheEnds();
        bendTakesTheLowestByte();
        messageOfAnEmptyTape();
        messageOfSomeBytes();
        messageOfAFullTape();
        longestMessages();
        answerAtTheEnds();
        wordAtTheEnds();
        wordOfHighBytes();
        longestAnswer();
        Bench.end();
    }

    /** "The ROOT alone, no version, no SNAPSHOT." */
    private static void newObjectIsEmpty() {
        Bench b = new Bench();
        State fresh = new State(b.server);
        Bench.due("archive(0)", -1, b.server.archive(0));
        Bench.due("score(0, 0)", -1, b.server.score(0, 0));
        Bench.due("crash(1)", -1, b.server.crash(1));
        Bench.due("crash(0)", 1, b.server.crash(0));
        b.unchanged("calls that find nothing", fresh);
        b.count(1, 1);
        b.count(2, 1);
        b.count(4, 0);
        b.count(8, 0);
        b.error(1, Wire.attach(0, Wire.NOFID, "", ""));
    }

    /** "Twenty bytes come onto the TAPE (1400 at most): .. how many it has. -1, and none comes: no room." */
    private static void feedUpTo1400() {
        Bench b = new Bench();
        for (int size = 20; size <= 1400; size += 20) {
            b.count(9, size - 20);
            Bench.due("feed", size, b.server.feed(size, 0, 0, 0, -1));
        }
        State full = new State(b.server);
        Bench.due("feed at 1400", -1, b.server.feed(1, 2, 3, 4, 5));
        b.unchanged("feed without room", full);
        // What is not taken makes no room; what is taken makes it, though it is ILL.
        Bench.due("message(1401)", -2, b.server.message(1401));
        Bench.due("feed at 1400", -1, b.server.feed(1, 2, 3, 4, 5));
        Bench.due("message(0)", -1, b.server.message(0));
        Bench.due("feed at 0", 20, b.server.feed(1, 2, 3, 4, 5));
    }

    /** "four in each number, the highest first" */
    private static void feedTakesTheHighestByteFirst() {
        Bench b = new Bench();
        b.server.feed(0x00ff7f80, 0x80000001, Integer.MAX_VALUE, -1, 0x000000fe);
        int[] due = {0, 255, 127, 128, 128, 0, 0, 1, 127, 255, 255, 255, 255, 255, 255, 255, 0, 0, 0, 254};
        for (int i = 0; i < due.length; i++) {
            Bench.due("byte " + i, due[i], b.server.bend(i, due[i]));
        }
    }

    /** "-1 if there is none": on an empty TAPE, on one of 20 bytes, and on a full one. */
    private static void bendAtTheEnds() {
        for (int size = 0; size <= 1400; size += size == 20 ? 1380 : 20) {
            Bench b = new Bench();
            b.feed(new byte[size]);
            b.count(9, size);
            State before = new State(b.server);
            Bench.due("bend(-1)", -1, b.server.bend(-1, 5));
            Bench.due("bend(" + size + ")", -1, b.server.bend(size, 5));
            Bench.due("bend(" + (size + 1) + ")", -1, b.server.bend(size + 1, 5));
            for (int i : FAR) {
                Bench.due("bend(" + i + ")", -1, b.server.bend(i, 5));
            }
            b.unchanged("bend of none", before);
            if (size > 0) {
                Bench.due("bend(0)", 0, b.server.bend(0, 5));
                Bench.due("bend at the last", 0, b.server.bend(size - 1, 6));
                b.unchanged("bend", before, "tape(0)", "tape(" + (size - 1) + ")");
                Bench.due("bend(0)", 5, b.server.bend(0, 0));
                Bench.due("bend at the last", 6, b.server.bend(size - 1, 0));
                b.unchanged("bend back", before);
            }
        }
        Bench b = new Bench();
        b.feed(new byte[20]);
        b.server.message(0);
        Bench.due("bend behind a message", -1, b.server.bend(0, 5));
    }

    /** "becomes v (its lowest byte): what it was (0 .. 255)" */
    private static void bendTakesTheLowestByte() {
        Bench b = new Bench();
        b.feed(new byte[20]);
        int was = 0;
        for (int v : new int[] {1, 127, 128, 254, 255, 256, 257, -1, -2, -128, -129, -256, -257, Integer.MAX_VALUE, Integer.MIN_VALUE}) {
            Bench.due("bend(7, " + v + ")", was, b.server.bend(7, v));
            was = v & 255;
        }
        Bench.due("bend", was, b.server.bend(7, 0));
    }

    /** "-2, and nothing happens: n is not 0 .. how many it has." */
    private static void refuses(Bench b, int n) {
        State before = new State(b.server);
        Bench.due("message(" + n + ")", -2, b.server.message(n));
        b.unchanged("message that is -2", before);
    }

    private static void messageOfAnEmptyTape() {
        Bench b = new Bench();
        refuses(b, -1);
        refuses(b, 1);
        refuses(b, 7);
        for (int n : FAR) {
            refuses(b, n);
        }
        b.ill(new byte[0]);
    }

    private static void messageOfSomeBytes() {
        for (int n = 0; n <= 20; n++) {
            Bench b = Bench.attached();
            b.feed(new Wire().n4(20).n1(110).n2(5).n4(0).n4(1).n2(1).s("x").bytes());
            refuses(b, -1);
            refuses(b, 21);
            refuses(b, 22);
            for (int far : FAR) {
                refuses(b, far);
            }
            State before = new State(b.server);
            boolean whole = n == 20;
            Bench.due("message(" + n + ")", whole ? 10 : -1, b.server.message(n));
            b.count(9, 0);
            b.count(11, whole ? 0 : 1);
            if (!whole) {
                b.unchanged("ILL bytes", before, "tape(", "count(9)", "count(11)");
            }
        }
    }

    private static void messageOfAFullTape() {
        Bench b = Bench.attached();
        b.feed(new byte[1400]);
        refuses(b, 1401);
        refuses(b, -1);
        Bench.due("message(1400)", -1, b.server.message(1400));
        b.count(9, 0);
        // What stands behind the first n bytes is no part of the message, and is gone with it.
        b.feed(Arrays.copyOf(Wire.flush(3), 1400));
        Bench.due("message(9)", 7, b.server.message(9));
        b.count(9, 0);
        refuses(b, 1);
    }

    /** A MESSAGE may fill the TAPE, and is ILL if its own length is one more or less. */
    private static void longestMessages() {
        String[] names = new String[691];
        Arrays.fill(names, "");
        names[690] = "x";
        byte[][] longest = {Wire.version(1000, "9P2000" + "x".repeat(1381)), Wire.walk(0, 1, names),
            Wire.write(0, 0, new byte[1377]), Wire.create(0, "n".repeat(1382), 0, 0),
            Wire.wstat(0, "n".repeat(1338), -1, -1, -1), Wire.attach(1, -1, "u".repeat(1381), "")};
        int[] errors = {0, 6, 3, 6, 6, 0};
        for (int i = 0; i < longest.length; i++) {
            Bench b = Bench.attached();
            Bench.due("bytes of message " + i, 1400, longest[i].length);
            byte[] off = longest[i].clone();
            off[0]++;
            b.ill(off);
            off[0] -= 2;
            b.ill(off);
            b.feed(longest[i]);
            Bench.due("message(1399)", -1, b.server.message(1399));
            if (errors[i] == 0) {
                b.ok(longest[i]);
            } else {
                b.error(errors[i], longest[i]);
            }
        }
    }

    /** "Byte i of the latest ANSWER (0 .. 255); -1 if there is none." */
    private static void answerAtTheEnds() {
        Bench b = new Bench();
        for (int i = -1; i < 2; i++) {
            Bench.due("answer(" + i + ") of none", -1, b.server.answer(i));
        }
        b.error(1, Wire.of(108, 0xfffe).n2(0).sized());
        int[] due = {10, 0, 0, 0, 107, 254, 255, 1, 0, 49};
        for (int i = 0; i < due.length; i++) {
            Bench.due("answer(" + i + ")", due[i], b.server.answer(i));
        }
        Bench.due("answer(-1)", -1, b.server.answer(-1));
        Bench.due("answer(10)", -1, b.server.answer(10));
        // A shorter one leaves nothing of the longer one behind.
        b.ok(Wire.version(1000, "9P2000"));
        b.ok(Wire.flush(0));
        b.count(10, 7);
        Bench.due("answer(6)", 0, b.server.answer(6));
        Bench.due("answer(7)", -1, b.server.answer(7));
        Bench.due("word(7)", 0, b.server.word(7));
        for (int i : FAR) {
            Bench.due("answer(" + i + ")", -1, b.server.answer(i));
        }
    }

    /** "Four bytes of it from i on as an int, the lowest first (0 beyond its end); 0 for i below 0." */
    private static void wordAtTheEnds() {
        Bench b = new Bench();
        for (int i = -5; i < 5; i++) {
            Bench.due("word(" + i + ") of none", 0, b.server.word(i));
        }
        b.error(1, Wire.of(108, 0x8182).n2(0).sized());
        int[] due = {10, 0x6b000000, 0x826b0000, 0x81826b00, 0x0181826b, 0x00018182, 0x31000181, 0x00310001, 0x00003100, 0x31, 0, 0};
        for (int i = 0; i < due.length; i++) {
            Bench.due("word(" + i + ")", due[i], b.server.word(i));
        }
        for (int i = -5; i < 0; i++) {
            Bench.due("word(" + i + ")", 0, b.server.word(i));
        }
        for (int i : FAR) {
            Bench.due("word(" + i + ")", 0, b.server.word(i));
        }
    }

    private static void wordOfHighBytes() {
        Bench b = Bench.attached();
        b.ok(Wire.walk(0, 1));
        b.ok(Wire.create(1, "f", 0x1ff, 2));
        b.ok(Wire.write(1, 0, "\u00ff\u00ff\u00ff\u00ff\u0080\u0000\u007f"));
        b.ok(Wire.read(1, 0, 7));
        int[] due = {-1, 0x80ffffff, 0x0080ffff, 0x7f0080ff, 0x007f0080, 0x00007f00, 0x7f, 0};
        for (int i = 0; i < due.length; i++) {
            Bench.due("word(" + (11 + i) + ")", due[i], b.server.word(11 + i));
        }
    }

    /** No ANSWER is longer than 1000 bytes: 18 files whose STATS have 989 together fill it. */
    private static void longestAnswer() {
        for (int last = 0; last < 3; last++) {
            Bench b = Bench.attached();
            for (int i = 0; i < 18; i++) {
                b.make("n" + (10 + i), 0x1ff, "");
            }
            b.ok(Wire.walk(0, 1, "n27"));
            b.ok(Wire.wstat(1, "x".repeat(1 + last), -1, -1, -1));
            b.ok(Wire.open(0, 0));
            b.ok(Wire.read(0, 0, 1000));
            // 17 of 55 bytes, and one of 53, 54 or 55, for which there is no room.
            int length = 11 + 17 * 55 + (last < 2 ? 53 + last : 0);
            b.count(10, length);
            Bench.due("the last byte", 103, b.server.answer(length - 1));
            Bench.due("behind it", -1, b.server.answer(length));
            Bench.due("word at the last four", 0x67000167, b.server.word(length - 4));
            Bench.due("word at the last three", 0x670001, b.server.word(length - 3));
            Bench.due("word at the last one", 103, b.server.word(length - 1));
            Bench.due("word behind it", 0, b.server.word(length));
        }
    }
}
