import java.lang.reflect.Field;
import java.nio.ByteBuffer;
import java.nio.ByteOrder;
import java.util.ArrayList;
import java.util.Arrays;
import java.util.HexFormat;
import java.util.List;

/** One server and the checks on it; prints each answer that is not the one that is due. */
final class Bench {
    private static int wrong = 0;
    EpochServer server = new EpochServer();

    /** A server with a version and fid 0 at the live root. */
    static Bench attached() {
        return attached(8192);
    }

    static Bench attached(int msize) {
        Bench bench = new Bench();
        bench.ok(Wire.version(msize, "9P2000"));
        bench.ok(Wire.attach(0, Wire.NOFID, "u", ""));
        return bench;
    }

    /** Fid 1 at file f (PATH 1, four bytes, MTIME 5), fid 2 at directory d (PATH 2, MTIME 8); nothing is LOOSE. */
    static Bench twoFiles() {
        Bench bench = attached();
        bench.make("f", 0x1ff, "data");
        bench.make("d", 0x800001ff, "");
        bench.ok(Wire.walk(0, 1, "f"));
        bench.ok(Wire.walk(0, 2, "d"));
        bench.ok(Wire.sync(0));
        bench.file(-1, 1, 0, 1, 0x1ff, 5, 4, 1);
        bench.file(-1, 2, 0, 0, 0x800001ff, 8, 0, 1);
        return bench;
    }

    static void end() {
        System.out.println(wrong == 0 ? "all as due" : wrong + " not as due");
        if (wrong != 0) {
            System.exit(1);
        }
    }

    static void due(String what, long want, long got) {
        if (want != got) {
            complain(what + ": answered " + got + ", due is " + want);
        }
    }

    private static void complain(String text) {
        wrong++;
        System.out.println(text);
        StackTraceElement[] trace = new Throwable().getStackTrace();
        for (StackTraceElement place : trace) {
            if (place.getClassName().endsWith("Test")) {
                System.out.println("    at " + place);
            }
        }
    }

    void feed(byte[] bytes) {
        byte[] padded = Arrays.copyOf(bytes, (bytes.length + 19) / 20 * 20);
        for (int at = 0; at < padded.length; at += 20) {
            server.feed(four(padded, at), four(padded, at + 4), four(padded, at + 8), four(padded, at + 12),
                    four(padded, at + 16));
        }
    }

    private static int four(byte[] bytes, int at) {
        return (bytes[at] & 255) << 24 | (bytes[at + 1] & 255) << 16 | (bytes[at + 2] & 255) << 8 | bytes[at + 3] & 255;
    }

    int send(byte[] bytes) {
        feed(bytes);
        return server.message(bytes.length);
    }

    byte[] answer() {
        byte[] bytes = new byte[server.count(10)];
        for (int i = 0; i < bytes.length; i++) {
            bytes[i] = (byte) server.answer(i);
        }
        return bytes;
    }

    /** Sent, and answered by the type that is due; the body behind the head. */
    byte[] ok(byte[] message) {
        int length = send(message);
        byte[] answer = answer();
        due("length that message answered", answer.length, length);
        due("size field", answer.length, server.word(0));
        due("type" + (answer.length == 10 ? " (ERROR " + (answer[9] - 48) + ")" : ""),
                (message[4] & 255) + 1, server.answer(4));
        due("tag", message[5] & 255 | (message[6] & 255) << 8, server.answer(5) | server.answer(6) << 8);
        return answer.length < 7 ? new byte[0] : Arrays.copyOfRange(answer, 7, answer.length);
    }

    void ok(byte[] message, byte[] body) {
        byte[] got = ok(message);
        if (!Arrays.equals(body, got)) {
            complain("body: answered " + Arrays.toString(got) + ", due is " + Arrays.toString(body));
        }
    }

    /** Whether all that the calls tell is as it was, but for those that begin with one of these. */
    void unchanged(String call, State before, String... but) {
        List<String> unlike = before.unlike(new State(server), List.of(but));
        if (!unlike.isEmpty()) {
            complain(call + " changed " + unlike);
        }
    }

    void error(int number, byte[] message) {
        int errors = server.count(12);
        int time = server.count(0);
        State before = new State(server);
        due("length of an ERROR", 10, send(message));
        byte[] due = Wire.of(107, message[5] & 255 | (message[6] & 255) << 8).n2(1).n1(48 + number).sized();
        if (!Arrays.equals(due, answer())) {
            complain("ERROR: answered " + Arrays.toString(answer()) + ", due is " + Arrays.toString(due));
        }
        due("count(12)", errors + 1, server.count(12));
        due("count(0)", time + 1, server.count(0));
        unchanged("an ERROR", before, mayChangeWithError(message));
    }

    /** By the document an ERROR changes TIME alone; but 122 takes its FID, and 100 all FIDS and the version. */
    private static String[] mayChangeWithError(byte[] message) {
        List<String> may = new ArrayList<>(List.of("count(0)", "count(10)", "count(12)", "answer("));
        if (message[4] == 122) {
            int fid = ByteBuffer.wrap(message).order(ByteOrder.LITTLE_ENDIAN).getInt(7);
            may.addAll(List.of("count(3)", "fid(" + fid + ","));
        } else if (message[4] == 100) {
            may.addAll(List.of("count(3)", "count(8)", "fid("));
        }
        return may.toArray(new String[0]);
    }

    void ill(byte[] bytes) {
        int ill = server.count(11);
        State before = new State(server);
        due("message of ILL bytes", -1, send(bytes));
        due("count(11)", ill + 1, server.count(11));
        unchanged("ILL bytes", before, "count(11)");
    }

    void file(int tree, int path, int parent, int version, int mode, int mtime, int size, int nameSize) {
        int[] due = {parent, version, mode, mtime, size, nameSize};
        for (int what = 0; what < due.length; what++) {
            due("file(" + tree + ", " + path + ", " + what + ")", due[what], server.file(tree, path, what));
        }
    }

    void noFile(int tree, int path) {
        for (int what = -1; what < 7; what++) {
            due("file(" + tree + ", " + path + ", " + what + ")", -9, server.file(tree, path, what));
        }
    }

    void fid(int number, int tree, int path, int open, int mode, int lost) {
        int[] due = {tree, path, open, mode, lost};
        for (int what = 0; what < due.length; what++) {
            due("fid(" + number + ", " + what + ")", due[what], server.fid(number, what));
        }
    }

    void noFid(int number) {
        for (int what = -1; what < 6; what++) {
            due("fid(" + number + ", " + what + ")", -9, server.fid(number, what));
        }
    }

    void count(int what, int due) {
        due("count(" + what + ")", due, server.count(what));
    }

    /**
     * The scores in THE STORE, in the order in which they came. Calls tell that order only by blocks of
     * one score and several sizes, and nobody has such blocks, so it is looked up inside the server.
     */
    void storeIs(List<String> due) {
        List<String> got = storeScores();
        if (!due.equals(got)) {
            complain("order of the blocks: is " + got + ", due is " + due);
        }
    }

    private List<String> storeScores() {
        Object store = inside(inside(server, "archiver"), "store");
        int[] words = (int[]) inside(store, "scores");
        List<String> scores = new ArrayList<>();
        for (int block = 0; block < server.count(6); block++) {
            ByteBuffer score = ByteBuffer.allocate(20);
            score.asIntBuffer().put(words, block * 5, 5);
            scores.add(HexFormat.of().formatHex(score.array()));
        }
        return scores;
    }

    private static Object inside(Object holder, String name) {
        try {
            Field field = holder.getClass().getDeclaredField(name);
            field.setAccessible(true);
            return field.get(holder);
        } catch (ReflectiveOperationException e) {
            throw new IllegalStateException("the server's inside is another one: mend storeScores", e);
        }
    }

    /** A new file in the root, by a fid that is gone behind it. */
    void make(String name, int perm, String data) {
        ok(Wire.walk(0, 999));
        ok(Wire.create(999, name, perm, perm < 0 ? 0 : 2));
        if (!data.isEmpty()) {
            ok(Wire.write(999, 0, data));
        }
        ok(Wire.clunk(999));
    }
}
