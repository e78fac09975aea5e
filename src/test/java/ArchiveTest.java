import java.util.ArrayList;
import java.util.Arrays;
import java.util.HexFormat;
import java.util.List;
import java.util.Random;

/** Promises 8, 9 and 13 (6, 7) over trees of many directories: what is put away, and in which order. */
final class ArchiveTest {
    public static void main(String[] args) {
        twoFiles();
        crissCross();
        deepest();
        deepestWithFileBeside();
        int trees = args.length > 0 ? Integer.parseInt(args[0]) : 60;
        for (int seed = 0; seed < trees; seed++) {
            new RandomTree(seed).go();
        }
        Bench.end();
    }

    /** The blocks that are due, written down in the order in which they are due. */
    private static final class Due {
        final List<String> scores = new ArrayList<>();
        byte[] root = {};
        int bytes = 0;

        byte[] block(byte[] block) {
            byte[] score = Oracle.sha(block);
            String text = HexFormat.of().formatHex(score);
            if (!scores.contains(text)) {
                scores.add(text);
                bytes += block.length;
            }
            root = score;
            return score;
        }

        byte[] data(byte[] data) {
            Wire row = new Wire();
            for (int at = 0; at < data.length; at += 64) {
                row.raw(block(Arrays.copyOfRange(data, at, Math.min(at + 64, data.length))));
            }
            return block(row.bytes());
        }

        void isIn(Bench b, int k, int cameWith) {
            for (int i = 0; i < 20; i++) {
                Bench.due("score " + k + " " + i, root[i] & 255, b.server.score(k, i));
            }
            Bench.due("archive", cameWith, b.server.archive(k));
            b.count(6, scores.size());
            b.count(7, bytes);
            b.storeIs(scores);
            Bench.due("archive again", 0, b.server.archive(k));
            b.count(6, scores.size());
            b.count(7, bytes);
        }
    }

    /** The STAT of a file of snapshot k, by what file() tells of it. */
    private static byte[] stat(Bench b, int k, int path, String name) {
        int mode = b.server.file(k, path, 2);
        int length = mode < 0 ? 0 : b.server.file(k, path, 4);
        return Wire.statOfFile(path, b.server.file(k, path, 1), mode, b.server.file(k, path, 3), length, name);
    }

    private static byte[] bytes(String text) {
        return text.getBytes(java.nio.charset.StandardCharsets.ISO_8859_1);
    }

    private static void twoFiles() {
        Bench b = Bench.attached();
        b.make("one", 0x1ff, "first");
        b.make("two", 0x1ff, "second, and longer");
        b.server.snap();
        Due due = new Due();
        byte[] one = due.data(bytes("first"));
        byte[] two = due.data(bytes("second, and longer"));
        due.block(new Wire().raw(stat(b, 0, 1, "one")).raw(one).raw(stat(b, 0, 2, "two")).raw(two).bytes());
        due.isIn(b, 0, 5);
    }

    /** Files made in turn in several directories: their order is the tree's, not that of their paths. */
    private static void crissCross() {
        Bench b = Bench.attached();
        makeIn(b, "a", 0x800001ff, "");
        makeIn(b, "b", 0x800001ff, "");
        makeIn(b, "f3", 0x1ff, "three", "a");
        makeIn(b, "f4", 0x1ff, "four", "b");
        makeIn(b, "c", 0x800001ff, "", "a");
        makeIn(b, "f6", 0x1ff, "six");
        makeIn(b, "f7", 0x1ff, "x".repeat(130), "a", "c");
        makeIn(b, "d", 0x80000000, "", "b");
        makeIn(b, "f9", 0x1ff, "three", "b", "d");
        makeIn(b, "f10", 0x1ff, "ten", "a");
        makeIn(b, "e", 0x80000000, "", "a", "c");
        b.server.snap();
        Due due = new Due();
        byte[] f3 = due.data(bytes("three"));
        byte[] f7 = due.data(bytes("x".repeat(130)));
        byte[] e = due.block(new byte[0]);
        byte[] c = due.block(new Wire().raw(stat(b, 0, 7, "f7")).raw(f7).raw(stat(b, 0, 11, "e")).raw(e).bytes());
        byte[] f10 = due.data(bytes("ten"));
        byte[] a = due.block(new Wire().raw(stat(b, 0, 3, "f3")).raw(f3).raw(stat(b, 0, 5, "c")).raw(c)
                .raw(stat(b, 0, 10, "f10")).raw(f10).bytes());
        byte[] f4 = due.data(bytes("four"));
        byte[] f9 = due.data(bytes("three"));
        byte[] d = due.block(new Wire().raw(stat(b, 0, 9, "f9")).raw(f9).bytes());
        byte[] second = due.block(new Wire().raw(stat(b, 0, 4, "f4")).raw(f4).raw(stat(b, 0, 8, "d")).raw(d).bytes());
        byte[] f6 = due.data(bytes("six"));
        due.block(new Wire().raw(stat(b, 0, 1, "a")).raw(a).raw(stat(b, 0, 2, "b")).raw(second)
                .raw(stat(b, 0, 6, "f6")).raw(f6).bytes());
        // three, its row; x twice and its rest, their row; empty; c; ten, its row; a; four, its row; d; b; six, its row; /.
        due.isIn(b, 0, 2 + 3 + 1 + 1 + 2 + 1 + 2 + 1 + 1 + 2 + 1);
    }

    private static void makeIn(Bench b, String name, int perm, String data, String... names) {
        b.ok(Wire.walk(0, 1, names));
        b.ok(Wire.create(1, name, perm, perm < 0 ? 0 : 2));
        if (!data.isEmpty()) {
            b.ok(Wire.write(1, 0, data));
        }
        b.ok(Wire.clunk(1));
    }

    /** Fid 0 goes down with the directories, so that all of it stays below 512 calls. */
    private static void goDown(Bench b) {
        b.send(Wire.walk(0, 1));
        b.send(Wire.create(1, "d", 0x800001ff, 0));
        b.send(Wire.walk(0, 0, "d"));
        b.send(Wire.clunk(1));
    }

    private static void deepest() {
        Bench b = Bench.attached();
        for (int depth = 1; depth < 60; depth++) {
            goDown(b);
        }
        b.server.snap();
        b.fid(0, -1, 59, 0, 0, 0);
        b.error(9, Wire.create(0, "d", 0x800001ff, 0));
        Due due = new Due();
        byte[] score = due.block(new byte[0]);
        for (int path = 59; path >= 1; path--) {
            b.file(0, path, path - 1, path < 59 ? 1 : 0, 0x800001ff, b.server.file(0, path, 3), path < 59 ? 1 : 0, 1);
            score = due.block(new Wire().raw(stat(b, 0, path, "d")).raw(score).bytes());
        }
        Bench.due("bytes", 59 * 73, due.bytes);
        due.isIn(b, 0, 60);
    }

    /** From the innermost directory of 58 it goes on with the last file of the root. */
    private static void deepestWithFileBeside() {
        Bench b = Bench.attached();
        b.ok(Wire.attach(2, Wire.NOFID, "", ""));
        for (int depth = 1; depth < 59; depth++) {
            goDown(b);
        }
        b.ok(Wire.create(2, "last", 0x1ff, 1));
        b.ok(Wire.write(2, 0, "data"));
        b.server.snap();
        Due due = new Due();
        byte[] score = due.block(new byte[0]);
        for (int path = 58; path >= 2; path--) {
            score = due.block(new Wire().raw(stat(b, 0, path, "d")).raw(score).bytes());
        }
        byte[] last = due.data(bytes("data"));
        due.block(new Wire().raw(stat(b, 0, 1, "d")).raw(score).raw(stat(b, 0, 59, "last")).raw(last).bytes());
        due.isIn(b, 0, 58 + 2 + 1);
    }

    /** A tree that grows by chance, held against the Oracle at six snapshots. */
    private static final class RandomTree {
        private final Random random;
        private final Twin twin;
        private final boolean deep;
        private final boolean large;

        RandomTree(long seed) {
            random = new Random(seed);
            twin = new Twin("tree " + seed);
            deep = seed % 3 == 0;
            large = seed % 4 == 1;
        }

        void go() {
            twin.send(Wire.version(8192, "9P2000"));
            twin.send(Wire.attach(0, Wire.NOFID, "u", ""));
            for (int part = 0; part < 6; part++) {
                for (int i = 0; i < 12; i++) {
                    twin.step++;
                    make();
                    change();
                }
                twin.snap();
                twin.scores(part);
                if (random.nextInt(3) > 0) {
                    twin.archive(random.nextInt(part + 1));
                }
            }
            for (int k : new int[] {5, 3, 0, 1, 2, 4, 5, 6}) {
                twin.archive(k);
                twin.scores(k);
            }
        }

        private void make() {
            List<Integer> directories = paths(true);
            int in = directories.get(deep && random.nextInt(6) > 0 ? directories.size() - 1
                    : random.nextInt(directories.size()));
            boolean directory = random.nextInt(large ? 6 : 2) == 0;
            goTo(in);
            twin.send(Wire.create(1, "n" + random.nextInt(200), directory ? 0x800001ff : 0x1ff, directory ? 0 : 1));
            if (!directory) {
                twin.send(Wire.write(1, 0, data()));
            }
            twin.send(Wire.clunk(1));
        }

        private void change() {
            List<Integer> files = paths(false);
            int path = files.isEmpty() ? 0 : files.get(random.nextInt(files.size()));
            int what = random.nextInt(8);
            goTo(path);
            if (what == 0) {
                twin.send(Wire.remove(1));
            } else if (what == 1) {
                twin.send(Wire.wstat(1, "m" + random.nextInt(200), -1, -1, -1));
            } else if (what < (large ? 8 : 4)) {
                twin.send(Wire.open(1, 17));
                twin.send(Wire.write(1, 0, data()));
            }
            if (what > 0) {
                twin.send(Wire.clunk(1));
            }
        }

        private byte[] data() {
            byte[] data = new byte[large ? 512 : random.nextInt(5) * 40];
            if (large || random.nextInt(2) == 0) {
                random.nextBytes(data);
            }
            return data;
        }

        private List<Integer> paths(boolean directories) {
            List<Integer> paths = new ArrayList<>();
            twin.oracle.live.forEach((path, file) -> {
                if (file.dir() == directories) {
                    paths.add(path);
                }
            });
            return paths;
        }

        /** Fid 1 comes to that file, at most 16 names at once. */
        private void goTo(int path) {
            List<String> names = new ArrayList<>();
            for (int at = path; at != 0; at = twin.oracle.live.get(at).parent) {
                names.add(0, twin.oracle.live.get(at).name);
            }
            twin.send(Wire.walk(0, 1));
            for (int from = 0; from < names.size(); from += 16) {
                twin.send(Wire.walk(1, 1, names.subList(from, Math.min(from + 16, names.size())).toArray(new String[0])));
            }
        }
    }
}
