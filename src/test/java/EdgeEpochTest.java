import java.util.Arrays;
import java.util.Random;

/** The boundary cases of promises 7 to 13: SNAPSHOTS, THE STORE, CHANGES, and what file, fid and count are asked for. */
final class EdgeEpochTest {
    private static final int[] FAR = {Integer.MIN_VALUE, Integer.MIN_VALUE + 1, Integer.MAX_VALUE - 1, Integer.MAX_VALUE};

    public static void main(String[] args) {
        sixSnapshots();
        snapshotsThatAreNone();
        bytesOfAScore();
        scoreOfEachSnapshot();
        blocksOfData();
        blocksOfEqualData();
        scoresOfEachLength();
        blocksOfDirectories();
        storeOf600();
        noRoomForTwo();
        looseAtMost();
        crashesThatAreRefused();
        crashOfNothing();
        crashOfEachKind();
        looseSinceTheLatestSync();
        onlyASyncMakesFast();
        whatACrashLeaves();
        changesThatAreNone();
        filesThatAreNone();
        fidsThatAreNone();
        countsThatAreNone();
        countsOfRefusals();
        Bench.end();
    }

    /** "A SNAPSHOT is taken: its number. -1: there are 6." */
    private static void sixSnapshots() {
        Bench b = Bench.attached();
        for (int k = 0; k < 6; k++) {
            b.count(4, k);
            b.noFile(k, 0);
            State before = new State(b.server);
            Bench.due("snap", k, b.server.snap());
            b.unchanged("snap", before, "count(4)", "file(" + k + ",", "score(" + k + ",");
            b.file(k, 0, 0, k, 0x800001ff, b.server.file(-1, 0, 3), k, 1);
            b.make("n" + k, 0x1ff, "");
        }
        State full = new State(b.server);
        Bench.due("snap", -1, b.server.snap());
        Bench.due("snap", -1, b.server.snap());
        b.unchanged("snap without room", full);
        b.count(4, 6);
        b.server.crash(0);
        Bench.due("snap", -1, b.server.snap());
    }

    /** "-1 there is none such", of archive and of score. */
    private static void snapshotsThatAreNone() {
        for (int many = 0; many <= 6; many++) {
            Bench b = Bench.attached();
            b.make("f", 0x1ff, "x");
            for (int k = 0; k < many; k++) {
                b.server.snap();
            }
            State before = new State(b.server);
            for (int k : new int[] {-2, -1, many, many + 1, 6, 7}) {
                Bench.due("archive(" + k + ")", -1, b.server.archive(k));
                Bench.due("score(" + k + ", 0)", -1, b.server.score(k, 0));
                Bench.due("score(" + k + ", 19)", -1, b.server.score(k, 19));
            }
            for (int k : FAR) {
                Bench.due("archive(" + k + ")", -1, b.server.archive(k));
                Bench.due("score(" + k + ", 0)", -1, b.server.score(k, 0));
            }
            b.unchanged("archive and score of none", before);
            for (int k = 0; k < many; k++) {
                Bench.due("archive(" + k + ")", k == 0 ? 3 : 0, b.server.archive(k));
            }
        }
    }

    /** "Byte i (0 .. 19)": 0 .. 255, the SNAPSHOT PUT AWAY or not. */
    private static void bytesOfAScore() {
        Bench b = new Bench();
        b.server.snap();
        byte[] due = Oracle.sha(new byte[0]);
        for (int away = 0; away < 2; away++) {
            for (int i = 0; i < 20; i++) {
                Bench.due("score(0, " + i + ")", due[i] & 255, b.server.score(0, i));
            }
            for (int i : new int[] {-2, -1, 20, 21}) {
                Bench.due("score(0, " + i + ")", -1, b.server.score(0, i));
            }
            for (int i : FAR) {
                Bench.due("score(0, " + i + ")", -1, b.server.score(0, i));
            }
            b.count(6, away);
            b.server.archive(0);
        }
    }

    /** "of a SNAPSHOT": each keeps its own, whatever comes behind it. */
    private static void scoreOfEachSnapshot() {
        Bench b = Bench.attached();
        byte[][] roots = new byte[6][];
        Wire root = new Wire();
        for (int k = 0; k < 6; k++) {
            b.server.snap();
            roots[k] = root.bytes();
            b.make("n" + k, 0x1ff, "");
            root.raw(Wire.statOfFile(k + 1, 0, 0x1ff, b.server.count(0) - 1, 0, "n" + k)).raw(Oracle.sha(new byte[0]));
        }
        for (int k = 5; k >= 0; k--) {
            scoreIs(b, k, roots[k]);
        }
        b.server.crash(6);
        for (int k = 0; k < 6; k++) {
            scoreIs(b, k, roots[k]);
        }
    }

    private static byte[] chance(int seed, int length) {
        byte[] data = new byte[length];
        new Random(seed).nextBytes(data);
        return data;
    }

    private static Bench withData(byte[] data) {
        Bench b = Bench.attached();
        b.ok(Wire.create(0, "f", 0x1ff, 1));
        if (data.length > 0) {
            b.ok(Wire.write(0, 0, data));
        }
        b.server.snap();
        return b;
    }

    private static final int[] LENGTHS = {0, 1, 19, 20, 54, 55, 56, 57, 62, 63, 64, 65, 66, 119, 120, 127, 128, 129, 191, 192, 193, 447,
        448, 449, 511, 512};

    /** "each 64 bytes of its DATA (the last ones fewer) are a BLOCK; then a BLOCK of their SCORES" */
    private static void blocksOfData() {
        for (int length : LENGTHS) {
            Bench b = withData(chance(length, length));
            int blocks = (length + 63) / 64;
            Bench.due("archive of " + length + " bytes", blocks + 2, b.server.archive(0));
            b.count(6, blocks + 2);
            b.count(7, length + 20 * blocks + 73);
            State before = new State(b.server);
            Bench.due("archive again", 0, b.server.archive(0));
            b.unchanged("archive of what is there", before);
        }
    }

    /** "A BLOCK whose SCORE is there is not put there again": within a FILE, too. */
    private static void blocksOfEqualData() {
        for (int length : new int[] {63, 64, 65, 128, 129, 512}) {
            Bench b = withData(new byte[length]);
            int blocks = (length + 63) / 64;
            int others = length % 64 == 0 || length < 64 ? 1 : 2;
            Bench.due("archive of " + length + " noughts", others + 2, b.server.archive(0));
            int bytes = length < 64 ? length : 64 + length % 64;
            b.count(7, bytes + 20 * blocks + 73);
        }
    }

    private static void scoreIs(Bench b, int k, byte[] block) {
        byte[] due = Oracle.sha(block);
        for (int i = 0; i < 20; i++) {
            Bench.due("score(" + k + ", " + i + ")", due[i] & 255, b.server.score(k, i));
        }
    }

    private static byte[] lastScore(byte[] data) {
        Wire row = new Wire();
        for (int at = 0; at < data.length; at += 64) {
            row.raw(Oracle.sha(Arrays.copyOfRange(data, at, Math.min(data.length, at + 64))));
        }
        return Oracle.sha(row.bytes());
    }

    /** SHA-1 fills its last 64 bytes up in one way below 56 of them, in another from there on. */
    private static void scoresOfEachLength() {
        for (int length = 0; length <= 130; length++) {
            byte[] data = chance(1000 + length, length);
            Bench b = withData(data);
            byte[] stat = Wire.statOfFile(1, length > 0 ? 1 : 0, 0x1ff, length > 0 ? 4 : 3, length, "f");
            scoreIs(b, 0, new Wire().raw(stat).raw(lastScore(data)).bytes());
        }
        for (int length : LENGTHS) {
            byte[] data = chance(length, length);
            Bench b = withData(data);
            byte[] stat = Wire.statOfFile(1, length > 0 ? 1 : 0, 0x1ff, length > 0 ? 4 : 3, length, "f");
            scoreIs(b, 0, new Wire().raw(stat).raw(lastScore(data)).bytes());
        }
    }

    /** "(Without DATA, or FILES: a BLOCK of 0 bytes.)", and the largest directory: 59 files with the longest names. */
    private static void blocksOfDirectories() {
        Bench b = Bench.attached();
        b.make("d", 0x800001ff, "");
        b.make("f", 0x1ff, "");
        b.server.snap();
        Bench.due("archive", 2, b.server.archive(0));
        b.count(7, 2 * 73);
        byte[] empty = Oracle.sha(new byte[0]);
        scoreIs(b, 0, new Wire().raw(Wire.statOfFile(1, 0, 0x800001ff, 4, 0, "d")).raw(empty)
                .raw(Wire.statOfFile(2, 0, 0x1ff, 7, 0, "f")).raw(empty).bytes());
        b = Bench.attached();
        Wire root = new Wire();
        for (int path = 1; path < 60; path++) {
            String name = "eighteen-bytes-lon" + (10 + path);
            b.make(name, 0x1ff, "");
            root.raw(Wire.statOfFile(path, 0, 0x1ff, b.server.count(0) - 1, 0, name)).raw(empty);
        }
        b.server.snap();
        scoreIs(b, 0, root.bytes());
        Bench.due("archive", 2, b.server.archive(0));
        b.count(7, 59 * 92);
    }

    /** 59 files of 512 bytes each: with their rows and the root's block 532 are there, of 600. */
    private static Bench largest() {
        Bench b = Bench.attached();
        for (int path = 1; path < 60; path++) {
            b.ok(Wire.walk(0, 1));
            b.ok(Wire.create(1, "n" + path, 0x1ff, 1));
            b.ok(Wire.write(1, 0, chance(path, 512)));
            b.ok(Wire.clunk(1));
        }
        b.server.snap();
        Bench.due("archive", 59 * 9 + 1, b.server.archive(0));
        return b;
    }

    private static void rewrite(Bench b, int path, int offset, byte[] data) {
        b.ok(Wire.walk(0, 1, "n" + path));
        b.ok(Wire.open(1, 1));
        b.ok(Wire.write(1, offset, data));
        b.ok(Wire.clunk(1));
    }

    private static void away(Bench b, int due, int size) {
        int k = b.server.snap();
        State before = new State(b.server);
        Bench.due("archive", due, b.server.archive(k));
        b.count(6, size);
        if (due < 0) {
            b.unchanged("archive without room", before);
        }
    }

    /**
     * "600 at most": 599, 600, and one more. It takes more calls than an object is promised for, as does all that
     * fills THE STORE, but the limit is to hold all the same.
     */
    private static void storeOf600() {
        Bench b = largest();
        for (int path = 1; path <= 7; path++) {
            rewrite(b, path, 0, chance(100 + path, 512));
        }
        rewrite(b, 8, 63, chance(200, 2));
        // Seven files anew, two blocks of another and its row, the root's.
        away(b, 7 * 9 + 3 + 1, 599);
        b.ok(Wire.wstat(0, "", 0x800001fe, -1, -1));
        away(b, 0, 599);
        b.ok(Wire.walk(0, 1, "n9"));
        b.ok(Wire.wstat(1, "other", -1, -1, -1));
        away(b, 1, 600);
        b.ok(Wire.wstat(1, "again", -1, -1, -1));
        away(b, -2, 600);
        Bench.due("archive", -2, b.server.archive(4));
        for (int k = 0; k < 4; k++) {
            Bench.due("archive of what is there", 0, b.server.archive(k));
        }
        b.ok(Wire.wstat(1, "other", -1, -1, -1));
        away(b, 0, 600);
    }

    /** "as far as there is room, or not at all (no room)": room for one of two, then for that one. */
    private static void noRoomForTwo() {
        Bench b = largest();
        for (int path = 1; path <= 7; path++) {
            rewrite(b, path, 0, chance(100 + path, 512));
        }
        rewrite(b, 8, 63, chance(200, 2));
        away(b, 67, 599);
        b.ok(Wire.walk(0, 1, "n8"));
        b.ok(Wire.wstat(1, "", -1, 7, -1));
        b.ok(Wire.walk(0, 2, "n9"));
        b.ok(Wire.open(2, 17));
        int bytes = b.server.count(7);
        // n9 without DATA has a block of 0 bytes, and the root another one: two, of which one has room.
        away(b, -2, 599);
        b.count(7, bytes);
        b.ok(Wire.write(2, 0, chance(9, 512)));
        away(b, 1, 600);
        b.count(7, bytes + 9 * (54 + 20) + 50 * (55 + 20));
        Bench.due("archive", -2, b.server.archive(2));
        b.count(6, 600);
    }

    /** Fid 1 OPEN at file f, written so often that it has that VERSION; no CHANGE is older. */
    private static Bench written(int version) {
        Bench b = Bench.attached();
        b.ok(Wire.walk(0, 1));
        b.ok(Wire.create(1, "f", 0x1ff, 2));
        b.ok(Wire.sync(0));
        for (int i = 1; i <= version; i++) {
            b.ok(Wire.write(1, 0, String.valueOf((char) i)));
        }
        return b;
    }

    /** "LOOSE are the CHANGES since the latest SYNC, the latest 20 at most." */
    private static void looseAtMost() {
        for (int changes : new int[] {0, 1, 2, 19, 20, 21, 22, 39, 40, 41, 61}) {
            int loose = Math.min(changes, 20);
            for (int back : new int[] {0, 1, loose - 1, loose, loose + 1}) {
                Bench b = written(changes);
                b.count(5, loose);
                boolean may = back >= 0 && back <= loose;
                int due = may ? changes - back : changes;
                Bench.due("crash(" + back + ") of " + loose, may ? 1 : -1, b.server.crash(back));
                Bench.due("VERSION", due, b.server.file(-1, 1, 1));
                b.count(5, may ? 0 : loose);
                b.ok(Wire.version(1000, "9P2000"));
                b.ok(Wire.attach(0, Wire.NOFID, "", ""));
                b.ok(Wire.walk(0, 1, "f"));
                b.ok(Wire.open(1, 0));
                b.ok(Wire.read(1, 0, 9), due == 0 ? new byte[4] : new Wire().n4(1).n1(due).bytes());
            }
        }
    }

    /** "-1, and nothing happens: n is not 0 .. how many are LOOSE." */
    private static void crashesThatAreRefused() {
        for (int changes : new int[] {0, 1, 20, 21}) {
            Bench b = written(changes);
            b.feed(new byte[20]);
            State before = new State(b.server);
            int loose = Math.min(changes, 20);
            for (int n : new int[] {-2, -1, loose + 1, loose + 2, 21, 22}) {
                Bench.due("crash(" + n + ")", -1, b.server.crash(n));
            }
            for (int n : FAR) {
                Bench.due("crash(" + n + ")", -1, b.server.crash(n));
            }
            b.unchanged("crash that is refused", before);
        }
    }

    /** A crash of 0 undoes nothing, but FIDS, version and what is LOOSE go. */
    private static void crashOfNothing() {
        Bench b = written(3);
        b.feed(new byte[20]);
        b.count(5, 3);
        State before = new State(b.server);
        Bench.due("crash(0)", 1, b.server.crash(0));
        b.unchanged("crash(0)", before, "count(3)", "count(5)", "count(8)", "fid(");
        b.count(3, 0);
        b.count(5, 0);
        b.count(8, 0);
        b.noFid(0);
        b.noFid(1);
        Bench.due("crash(1)", -1, b.server.crash(1));
        Bench.due("crash(0)", 1, b.server.crash(0));
    }

    /** Each kind of CHANGE is one, is undone whole, and leaves the one before it. */
    private static void crashOfEachKind() {
        byte[][] changes = {Wire.create(0, "new", 0x1ff, 1), Wire.create(0, "new", 0x80000000, 0), Wire.write(2, 0, "x"),
            Wire.open(3, 17), Wire.remove(3), Wire.remove(4), Wire.clunk(5), Wire.wstat(3, "new", -1, -1, -1),
            Wire.wstat(3, "", 0, -1, -1), Wire.wstat(3, "", -1, 0, -1), Wire.wstat(3, "", -1, -1, 0)};
        for (byte[] change : changes) {
            for (int back = 0; back < 3; back++) {
                Bench b = everyKind();
                State first = new State(b.server);
                b.ok(Wire.wstat(0, "", 0x80000100, -1, -1));
                State second = new State(b.server);
                b.ok(change);
                State third = new State(b.server);
                b.count(5, 2);
                Bench.due("crash(" + back + ")", 1, b.server.crash(back));
                State due = back == 0 ? third : back == 1 ? second : first;
                b.unchanged("crash(" + back + ")", due, "count(0)", "count(2)", "count(3)", "count(5)", "count(8)", "count(10)",
                        "answer(", "fid(");
                dataIs(b, back == 0 ? null : "data");
            }
        }
    }

    /** Fids 2 (OPEN), 3 (not) and 5 (OPEN with 64) at file f, 4 at directory d; nothing is LOOSE. */
    private static Bench everyKind() {
        Bench b = Bench.attached();
        b.make("f", 0x1ff, "data");
        b.make("d", 0x800001ff, "");
        b.ok(Wire.walk(0, 2, "f"));
        b.ok(Wire.open(2, 2));
        b.ok(Wire.walk(0, 3, "f"));
        b.ok(Wire.walk(0, 4, "d"));
        b.ok(Wire.walk(0, 5, "f"));
        b.ok(Wire.open(5, 64));
        b.ok(Wire.sync(0));
        return b;
    }

    private static void dataIs(Bench b, String due) {
        if (due == null) {
            return;
        }
        b.ok(Wire.version(1000, "9P2000"));
        b.ok(Wire.attach(0, Wire.NOFID, "", ""));
        b.ok(Wire.walk(0, 1, "f"));
        b.ok(Wire.open(1, 0));
        b.ok(Wire.read(1, 0, 1000), new Wire().n4(due.length()).raw(due.getBytes()).bytes());
    }

    private static void looseSinceTheLatestSync() {
        for (int before : new int[] {0, 1, 19, 20, 25}) {
            for (int behind : new int[] {0, 1, 19, 20, 21}) {
                Bench b = written(before);
                b.ok(Wire.sync(1));
                b.count(5, 0);
                for (int i = 0; i < behind; i++) {
                    b.ok(Wire.write(1, 0, "y"));
                }
                int loose = Math.min(behind, 20);
                b.count(5, loose);
                Bench.due("crash of one more", -1, b.server.crash(loose + 1));
                Bench.due("crash of all", 1, b.server.crash(loose));
                Bench.due("VERSION", before + behind - loose, b.server.file(-1, 1, 1));
            }
        }
    }

    /** Neither a version, a SNAPSHOT, PUTTING it AWAY, an ERROR nor ILL bytes make anything fast. */
    private static void onlyASyncMakesFast() {
        Bench b = written(20);
        b.server.snap();
        b.server.archive(0);
        b.error(9, Wire.wstat(1, "", -1, -1, 513));
        b.ill(Arrays.copyOf(Wire.sync(0), 60));
        b.count(5, 20);
        b.error(3, Wire.version(63, "9P2000"));
        b.ok(Wire.version(1000, "9P2000"));
        b.count(5, 20);
        Bench.due("crash(20)", 1, b.server.crash(20));
        b.file(-1, 1, 0, 0, 0x1ff, 4, 0, 1);
    }

    /** "(PATHS are not given again, TIME goes on, SNAPSHOTS and THE STORE stay.)" */
    private static void whatACrashLeaves() {
        Bench b = Bench.attached();
        b.make("a", 0x1ff, "x");
        b.server.snap();
        b.server.archive(0);
        b.error(2, Wire.stat(9));
        b.send(new byte[20]);
        State before = new State(b.server);
        Bench.due("crash(2)", 1, b.server.crash(2));
        b.unchanged("crash", before, "count(1)", "count(3)", "count(5)", "count(8)", "fid(", "file(-1,");
        b.file(-1, 0, 0, 0, 0x800001ff, 0, 0, 1);
        b.noFile(-1, 1);
        b.file(0, 1, 0, 1, 0x1ff, 5, 1, 1);
        b.count(2, 2);
        b.ok(Wire.version(1000, "9P2000"));
        b.count(0, 8);
        b.ok(Wire.attach(0, Wire.NOFID, "", ""));
        b.make("b", 0x1ff, "");
        b.file(-1, 2, 0, 0, 0x1ff, 11, 0, 1);
        b.ok(Wire.attach(1, Wire.NOFID, "", "s0"));
        b.ok(Wire.walk(1, 2, "a"));
        b.ok(Wire.open(2, 0));
        b.ok(Wire.read(2, 0, 9), new Wire().n4(1).n1('x').bytes());
        Bench.due("archive", 0, b.server.archive(0));
    }

    /** "A CHANGE is a MESSAGE that made the LIVE TREE another one": none of these did. */
    private static void changesThatAreNone() {
        Bench b = everyKind();
        byte[][] none = {Wire.flush(0), Wire.walk(0, 9, "f"), Wire.walk(9, 9), Wire.stat(9), Wire.read(2, 0, 9), Wire.write(2, 0, ""),
            Wire.open(9, 2), Wire.clunk(9), Wire.attach(9, Wire.NOFID, "", ""), Wire.wstat(3, "f", 0x1ff, -1, 4)};
        for (byte[] message : none) {
            b.ok(message);
            b.count(5, 0);
        }
        b.error(7, Wire.create(0, "f", 0, 0));
        b.error(3, Wire.remove(9));
        b.error(8, Wire.wstat(3, "g", -2, -1, -1));
        b.server.snap();
        b.server.archive(0);
        b.count(5, 0);
        b.ok(Wire.version(1000, "9P2000"));
        b.count(5, 0);
        Bench.due("crash(1)", -1, b.server.crash(1));
    }

    /** "-9: no such TREE, FILE in it, what." */
    private static void filesThatAreNone() {
        for (int many = 0; many <= 6; many += 3) {
            Bench b = Bench.attached();
            b.make("f", 0x1ff, "data");
            for (int k = 0; k < many; k++) {
                b.server.snap();
            }
            for (int tree : new int[] {Integer.MIN_VALUE, -9, -3, -2, many, many + 1, 6, 7, Integer.MAX_VALUE}) {
                b.noFile(tree, 0);
                b.noFile(tree, 1);
            }
            for (int tree = -1; tree < many; tree++) {
                for (int path : new int[] {Integer.MIN_VALUE, -2, -1, 2, 3, 59, 60, 61, Integer.MAX_VALUE}) {
                    b.noFile(tree, path);
                }
                for (int what : new int[] {Integer.MIN_VALUE, -2, -1, 6, 7, Integer.MAX_VALUE}) {
                    Bench.due("file(" + tree + ", 0, " + what + ")", -9, b.server.file(tree, 0, what));
                    Bench.due("file(" + tree + ", 1, " + what + ")", -9, b.server.file(tree, 1, what));
                }
                b.file(tree, 0, 0, 1, 0x800001ff, 4, 1, 1);
                b.file(tree, 1, 0, 1, 0x1ff, 5, 4, 1);
            }
        }
    }

    /** "-9: no such FID, what." */
    private static void fidsThatAreNone() {
        Bench b = Bench.attached();
        for (int number : new int[] {Integer.MIN_VALUE, -2, -1, 1, 2, 23, 24, 256, 65536, Integer.MAX_VALUE}) {
            b.noFid(number);
        }
        for (int what : new int[] {Integer.MIN_VALUE, -2, -1, 5, 6, Integer.MAX_VALUE}) {
            Bench.due("fid(0, " + what + ")", -9, b.server.fid(0, what));
        }
        b.fid(0, -1, 0, 0, 0, 0);
        b.ok(Wire.clunk(0));
        b.noFid(0);
        // What a FID of that number was is not what the next one is.
        b.ok(Wire.attach(0, Wire.NOFID, "", ""));
        b.ok(Wire.create(0, "f", 0x1ff, 66));
        b.fid(0, -1, 1, 1, 66, 0);
        b.ok(Wire.clunk(0));
        b.ok(Wire.attach(0, Wire.NOFID, "", ""));
        b.fid(0, -1, 0, 0, 0, 0);
    }

    /** "-9 for another what." */
    private static void countsThatAreNone() {
        Bench b = Bench.attached();
        for (int what : new int[] {Integer.MIN_VALUE, -9, -2, -1, 13, 14, Integer.MAX_VALUE}) {
            b.count(what, -9);
        }
        int[] due = {2, 1, 1, 1, 0, 0, 0, 0, 1000, 0, 20, 0, 0};
        for (int what = 0; what < due.length; what++) {
            b.count(what, due[what]);
        }
    }

    /** What is -2 counts for nothing, what is ILL for count(11), an ERROR for count(0) and count(12). */
    private static void countsOfRefusals() {
        Bench b = Bench.attached();
        for (int i = 1; i < 4; i++) {
            Bench.due("message(1)", -2, b.server.message(1));
            Bench.due("message(0)", -1, b.server.message(0));
            b.error(2, Wire.stat(9));
            b.count(0, 2 + i);
            b.count(11, i);
            b.count(12, i);
        }
        b.server.crash(0);
        b.count(0, 5);
        b.count(11, 3);
        b.count(12, 3);
    }
}
