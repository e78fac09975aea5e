import java.util.Random;

/** Promises 7 to 10: snap, archive, score, crash. */
final class EpochTest {
    public static void main(String[] args) {
        snap();
        emptyTree();
        archive();
        sharedBlocks();
        fullStore();
        crash();
        crashDepth();
        Bench.end();
    }

    private static void snap() {
        Bench b = Bench.attached();
        b.make("f", 0x1ff, "one");
        Bench.due("snap", 0, b.server.snap());
        b.ok(Wire.walk(0, 1, "f"));
        b.ok(Wire.open(1, 17));
        b.make("g", 0x1ff, "two");
        Bench.due("snap", 1, b.server.snap());
        b.file(0, 1, 0, 1, 0x1ff, 5, 3, 1);
        b.file(0, 0, 0, 1, 0x800001ff, 4, 1, 1);
        b.noFile(0, 2);
        b.file(1, 1, 0, 2, 0x1ff, 8, 0, 1);
        b.file(1, 2, 0, 1, 0x1ff, 11, 3, 1);
        for (int number = 2; number < 6; number++) {
            Bench.due("snap", number, b.server.snap());
        }
        Bench.due("snap", -1, b.server.snap());
        b.count(4, 6);
        b.noFile(6, 0);
        b.noFile(-2, 0);
        b.ok(Wire.attach(5, Wire.NOFID, "", "s5"));
        b.error(6, Wire.attach(6, Wire.NOFID, "", "s6"));
        // A snapshot makes nothing fast, and counts as no message.
        b.count(5, 5);
        b.count(0, 14);
    }

    private static void scoreIs(Bench b, int k, byte[] due) {
        for (int i = 0; i < 20; i++) {
            Bench.due("score(" + k + ", " + i + ")", due[i] & 255, b.server.score(k, i));
        }
        Bench.due("score", -1, b.server.score(k, -1));
        Bench.due("score", -1, b.server.score(k, 20));
    }

    private static void emptyTree() {
        Bench b = new Bench();
        Bench.due("archive", -1, b.server.archive(0));
        Bench.due("archive", -1, b.server.archive(-1));
        Bench.due("score", -1, b.server.score(0, 0));
        b.server.snap();
        scoreIs(b, 0, Oracle.sha(new byte[0]));
        b.count(6, 0);
        Bench.due("archive", 1, b.server.archive(0));
        b.count(6, 1);
        b.count(7, 0);
        Bench.due("archive", 0, b.server.archive(0));
        Bench.due("archive", -1, b.server.archive(1));
        Bench.due("score", -1, b.server.score(1, 0));
        Bench.due("score", -1, b.server.score(-1, 0));
    }

    private static void archive() {
        Bench b = Bench.attached();
        byte[] data = new byte[130];
        new Random(5).nextBytes(data);
        b.ok(Wire.walk(0, 1));
        b.ok(Wire.create(1, "f", 0x1ff, 1));
        b.ok(Wire.write(1, 0, data));
        b.server.snap();
        byte[] row = new Wire().raw(Oracle.sha(java.util.Arrays.copyOfRange(data, 0, 64)))
                .raw(Oracle.sha(java.util.Arrays.copyOfRange(data, 64, 128)))
                .raw(Oracle.sha(java.util.Arrays.copyOfRange(data, 128, 130))).bytes();
        byte[] root = new Wire().raw(Wire.statOfFile(1, 1, 0x1ff, 5, 130, "f")).raw(Oracle.sha(row)).bytes();
        scoreIs(b, 0, Oracle.sha(root));
        Bench.due("archive", 5, b.server.archive(0));
        b.count(6, 5);
        b.count(7, 130 + 60 + 73);
        scoreIs(b, 0, Oracle.sha(root));
        // Another name changes the root's block alone; the snapshot before keeps its score.
        b.ok(Wire.wstat(1, "other", -1, -1, -1));
        b.server.snap();
        Bench.due("archive", 1, b.server.archive(1));
        b.count(6, 6);
        b.count(7, 130 + 60 + 73 + 77);
        scoreIs(b, 0, Oracle.sha(root));
        // Whole blocks leave no empty one behind them.
        b.ok(Wire.wstat(1, "", -1, -1, 128));
        b.server.snap();
        Bench.due("archive", 2, b.server.archive(2));
    }

    private static void sharedBlocks() {
        Bench b = Bench.attached();
        b.make("a", 0, "");
        b.make("b", 0x80000000, "");
        b.make("c", 0, "same");
        b.make("d", 0, "same");
        b.server.snap();
        // No data, and no files: the block of 0 bytes; "same" and its row once; the root.
        Bench.due("archive", 4, b.server.archive(0));
        b.count(7, 4 + 20 + 4 * 73);
    }

    /** It takes more calls than an object is promised for, but the limit is to hold all the same. */
    private static void fullStore() {
        Bench b = Bench.attached();
        Random random = new Random(3);
        for (int file = 0; file < 59; file++) {
            b.ok(Wire.walk(0, 1));
            b.ok(Wire.create(1, "n" + file, 0x1ff, 1));
            byte[] data = new byte[512];
            random.nextBytes(data);
            b.ok(Wire.write(1, 0, data));
            b.ok(Wire.clunk(1));
        }
        b.server.snap();
        Bench.due("archive", 59 * 9 + 1, b.server.archive(0));
        int bytes = b.server.count(7);
        // 532 are there: 68 may come. Six files anew are 54, and the root; a seventh makes 64; eight 73.
        for (int many = 1; many <= 8; many++) {
            b.ok(Wire.walk(0, 1, "n" + many));
            b.ok(Wire.open(1, 1));
            byte[] data = new byte[512];
            random.nextBytes(data);
            b.ok(Wire.write(1, 0, data));
            b.ok(Wire.clunk(1));
            if (many >= 7) {
                b.server.snap();
            }
        }
        Bench.due("archive", -2, b.server.archive(2));
        b.count(6, 532);
        b.count(7, bytes);
        Bench.due("archive", 64, b.server.archive(1));
        b.count(6, 596);
        Bench.due("archive", -2, b.server.archive(2));
        Bench.due("archive", 0, b.server.archive(0));
        // To the last one: three blocks and the root are just 600.
        b.ok(Wire.walk(0, 1, "n8"));
        b.ok(Wire.open(1, 17));
        b.ok(Wire.write(1, 0, new byte[65]));
        b.server.snap();
        Bench.due("archive", 4, b.server.archive(3));
        b.count(6, 600);
        b.ok(Wire.write(1, 0, "x"));
        b.server.snap();
        Bench.due("archive", -2, b.server.archive(4));
        Bench.due("archive", 0, b.server.archive(3));
        b.count(6, 600);
    }

    private static void crash() {
        Bench b = Bench.attached();
        b.make("f", 0x1ff, "data");
        b.ok(Wire.walk(0, 1, "f"));
        b.ok(Wire.remove(1));
        b.server.snap();
        b.server.archive(0);
        Bench.due("crash", -1, b.server.crash(4));
        Bench.due("crash", -1, b.server.crash(-1));
        Bench.due("crash", -1, b.server.crash(Integer.MIN_VALUE));
        b.count(3, 1);
        b.count(5, 3);
        b.count(8, 1000);
        Bench.due("crash", 1, b.server.crash(1));
        b.file(-1, 1, 0, 1, 0x1ff, 5, 4, 1);
        b.file(-1, 0, 0, 1, 0x800001ff, 4, 1, 1);
        b.noFile(0, 1);
        int[] counts = {8, 2, 2, 0, 1, 0, 1};
        for (int what = 0; what < counts.length; what++) {
            b.count(what, counts[what]);
        }
        b.count(8, 0);
        b.error(1, Wire.stat(0));
        b.ok(Wire.version(1000, "9P2000"));
        b.ok(Wire.attach(0, Wire.NOFID, "", ""));
        b.make("g", 0x1ff, "");
        Bench.due("crash", 1, b.server.crash(1));
        b.ok(Wire.version(1000, "9P2000"));
        b.ok(Wire.attach(0, Wire.NOFID, "", ""));
        b.make("h", 0x1ff, "");
        // Paths are not given again.
        b.noFile(-1, 2);
        b.file(-1, 3, 0, 0, 0x1ff, 18, 0, 1);
        b.count(2, 4);
        Bench.due("crash", 1, b.server.crash(0));
        b.count(1, 3);
        b.count(5, 0);
    }

    private static void crashDepth() {
        for (int back = 0; back <= 21; back++) {
            Bench b = Bench.attached();
            b.ok(Wire.walk(0, 1));
            b.ok(Wire.create(1, "f", 0x1ff, 1));
            for (int version = 1; version <= 45; version++) {
                b.ok(Wire.write(1, 0, "x"));
            }
            b.count(5, 20);
            Bench.due("crash", back > 20 ? -1 : 1, b.server.crash(back));
            Bench.due("version", back > 20 ? 45 : 45 - back, b.server.file(-1, 1, 1));
        }
    }
}
