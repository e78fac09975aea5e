import java.util.Arrays;

/** Promise 4, with 11 to 13: open, create, read, write, clunk, remove, stat. */
final class FilesTest {
    public static void main(String[] args) {
        create();
        createErrors();
        lastPath();
        open();
        truncate();
        readAndWrite();
        offsets();
        readDirectory();
        remove();
        removeAtClunk();
        lost();
        stat();
        Bench.end();
    }

    private static void create() {
        Bench b = Bench.attached();
        b.ok(Wire.walk(0, 1));
        b.ok(Wire.create(1, "f", 0x7fffffff, 1), new Wire().raw(Wire.qid(false, 0, 1)).n4(0).bytes());
        b.file(-1, 1, 0, 0, 0x1ff, 4, 0, 1);
        b.file(-1, 0, 0, 1, 0x800001ff, 4, 1, 1);
        b.fid(1, -1, 1, 1, 1, 0);
        b.ok(Wire.walk(0, 2));
        b.ok(Wire.create(2, "d", -1, 0), new Wire().raw(Wire.qid(true, 0, 2)).n4(0).bytes());
        b.file(-1, 2, 0, 0, 0x800001ff, 6, 0, 1);
        b.file(-1, 0, 0, 2, 0x800001ff, 6, 2, 1);
        b.fid(2, -1, 2, 1, 0, 0);
        // Whatever its mode, it is open as asked.
        b.ok(Wire.walk(0, 3));
        b.ok(Wire.create(3, "twenty-bytes-long-na", 0, 82));
        b.ok(Wire.write(3, 0, "x"));
        b.ok(Wire.read(3, 0, 9), new Wire().n4(1).n1('x').bytes());
        b.file(-1, 3, 0, 1, 0, 9, 1, 20);
        b.count(1, 4);
        b.count(2, 4);
        b.count(5, 4);
    }

    private static void createErrors() {
        Bench b = Bench.attached();
        b.make("f", 0x1ff, "");
        b.server.snap();
        b.ok(Wire.attach(1, Wire.NOFID, "", "s0"));
        b.ok(Wire.walk(0, 2, "f"));
        b.error(5, Wire.create(1, "", 0, 3));
        b.error(5, Wire.create(2, "", 0, 3));
        for (String name : new String[] {"", ".", "..", "a/b", "/", "a\0", "\0", "twenty-one-bytes-long"}) {
            b.error(6, Wire.create(0, name, 0, 3));
        }
        b.error(7, Wire.create(0, "f", 0, 3));
        for (int mode : new int[] {3, 4, 8, 32, 128, 19, 67, 255}) {
            b.error(8, Wire.create(0, "g", 0x1ff, mode));
        }
        for (int mode : new int[] {1, 2, 16, 64}) {
            b.error(8, Wire.create(0, "g", 0x800001ff, mode));
        }
        b.count(1, 2);
        b.count(2, 2);
        b.file(-1, 0, 0, 1, 0x800001ff, 4, 1, 1);
        b.ok(Wire.create(0, "...", 0, 0));
        b.error(3, Wire.create(0, "", 0, 3));
        b.error(2, Wire.create(77, "", 0, 3));
    }

    private static void lastPath() {
        Bench b = Bench.attached();
        for (int path = 1; path < 60; path++) {
            b.make("n" + path, 0, "");
        }
        b.count(2, 60);
        b.count(1, 60);
        b.error(9, Wire.create(0, "x", 0, 0));
        b.error(8, Wire.create(0, "x", 0, 3));
        b.ok(Wire.walk(0, 1, "n59"));
        b.ok(Wire.remove(1));
        b.error(9, Wire.create(0, "x", 0, 0));
        b.count(2, 60);
        b.count(1, 59);
        b.noFile(-1, 59);
        b.noFile(-1, 60);
    }

    private static void open() {
        Bench b = Bench.attached();
        String[] names = {"none", "read", "write", "both"};
        int[] perms = {0x7f, 0x100, 0x80, 0x180};
        for (int i = 0; i < 4; i++) {
            b.make(names[i], perms[i], "x");
        }
        for (int i = 0; i < 4; i++) {
            for (int mode : new int[] {0, 1, 2, 64, 65, 66, 16, 17, 18, 82}) {
                int low = mode & 3;
                boolean reads = low != 1;
                boolean writes = low != 0 || (mode & 16) != 0;
                boolean lacks = reads && i % 2 == 0 || writes && i < 2;
                b.ok(Wire.walk(0, 9, names[i]));
                if (lacks) {
                    b.error(7, Wire.open(9, mode));
                    b.fid(9, -1, i + 1, 0, 0, 0);
                } else {
                    b.ok(Wire.open(9, mode));
                    b.fid(9, -1, i + 1, 1, mode, 0);
                    b.error(3, Wire.open(9, 3));
                }
                b.ok(Wire.walk(0, 10));
                b.ok(Wire.version(1000, "9P2000"));
                b.ok(Wire.attach(0, Wire.NOFID, "", ""));
            }
        }
        b.server.snap();
        b.ok(Wire.attach(1, Wire.NOFID, "", "s0"));
        b.ok(Wire.walk(1, 2, "both"));
        b.ok(Wire.walk(1, 3, "write"));
        for (int mode : new int[] {1, 2, 16, 64}) {
            b.error(6, Wire.open(0, mode));
            b.error(6, Wire.open(1, mode));
            b.error(6, Wire.open(2, mode));
        }
        for (int mode : new int[] {3, 4, 8, 32, 128, 19, 83}) {
            b.error(5, Wire.open(0, mode));
            b.error(5, Wire.open(2, mode));
        }
        b.error(7, Wire.open(3, 0));
        b.ok(Wire.open(2, 0));
        b.ok(Wire.open(0, 0), new Wire().raw(Wire.qid(true, 4, 0)).n4(0).bytes());
    }

    private static void truncate() {
        Bench b = Bench.attached();
        b.make("f", 0x1ff, "data");
        b.ok(Wire.walk(0, 1, "f"));
        b.ok(Wire.walk(1, 2));
        int loose = b.server.count(5);
        b.ok(Wire.open(1, 17), new Wire().raw(Wire.qid(false, 2, 1)).n4(0).bytes());
        b.file(-1, 1, 0, 2, 0x1ff, b.server.count(0), 0, 1);
        b.count(5, loose + 1);
        int time = b.server.count(0);
        b.ok(Wire.open(2, 16), new Wire().raw(Wire.qid(false, 2, 1)).n4(0).bytes());
        b.file(-1, 1, 0, 2, 0x1ff, time, 0, 1);
        b.count(5, loose + 1);
    }

    private static void readAndWrite() {
        Bench b = Bench.attached();
        b.make("f", 0x1ff, "");
        for (int fid = 1; fid <= 3; fid++) {
            b.ok(Wire.walk(0, fid, "f"));
        }
        b.error(3, Wire.read(1, 0, 1));
        b.error(3, Wire.write(1, 0, "x"));
        for (int fid = 1; fid <= 3; fid++) {
            b.ok(Wire.open(fid, fid - 1));
        }
        b.error(3, Wire.write(1, 600, "x"));
        b.error(3, Wire.read(2, 0, 1));
        b.ok(Wire.write(2, 2, "ab"), new Wire().n4(2).bytes());
        b.ok(Wire.read(1, 0, 100), new Wire().n4(4).n2(0).raw("ab".getBytes()).bytes());
        b.ok(Wire.write(3, 0, "xyz"));
        b.ok(Wire.read(3, 1, 2), new Wire().n4(2).raw("yz".getBytes()).bytes());
        b.ok(Wire.read(3, 3, -1), new Wire().n4(1).raw("b".getBytes()).bytes());
        b.ok(Wire.read(3, 4, 5), new byte[4]);
        b.ok(Wire.read(3, 0, 0), new byte[4]);
        int loose = b.server.count(5);
        int time = b.server.file(-1, 1, 3);
        b.ok(Wire.write(3, 400, ""), new byte[4]);
        b.file(-1, 1, 0, 2, 0x1ff, time, 4, 1);
        b.count(5, loose);
        // 16 with lowest bits 0 asks for bit 7, but lets nothing be written.
        b.ok(Wire.walk(0, 4, "f"));
        b.ok(Wire.open(4, 80));
        b.error(3, Wire.write(4, 0, "x"));
        b.ok(Wire.read(4, 0, 9), new byte[4]);
        b.file(-1, 1, 0, 3, 0x1ff, b.server.count(0) - 2, 0, 1);
        b.count(5, ++loose);
        // The same bytes again are a change, too.
        b.ok(Wire.write(3, 0, "x"));
        b.count(5, ++loose);
        b.ok(Wire.write(3, 0, "x"));
        b.file(-1, 1, 0, 5, 0x1ff, b.server.count(0), 1, 1);
        b.count(5, loose + 1);
    }

    private static void offsets() {
        Bench b = Bench.attached();
        b.ok(Wire.walk(0, 1));
        b.ok(Wire.create(1, "f", 0x1ff, 2));
        byte[] full = new byte[512];
        for (int i = 0; i < 512; i++) {
            full[i] = (byte) (i * 7);
        }
        b.ok(Wire.write(1, 0, full), new Wire().n4(512).bytes());
        b.error(5, Wire.write(1, 0, new byte[513]));
        b.error(5, Wire.write(1, 1, full));
        b.error(5, Wire.write(1, 512, "x"));
        b.error(5, Wire.write(1, 513, ""));
        b.error(5, Wire.write(1, -1, "x"));
        b.error(5, Wire.write(1, -1, "xx"));
        b.error(5, Wire.write(1, 1L << 32, ""));
        b.ok(Wire.write(1, 512, ""));
        b.ok(Wire.write(1, 511, "x"));
        for (long far : new long[] {512, 513, -1, Long.MIN_VALUE, 1L << 32}) {
            b.ok(Wire.read(1, far, 100), new byte[4]);
        }
        b.ok(Wire.version(64, "9P2000"));
        b.ok(Wire.attach(0, Wire.NOFID, "", ""));
        b.ok(Wire.walk(0, 1, "f"));
        b.ok(Wire.open(1, 0));
        b.ok(Wire.read(1, 10, -1), new Wire().n4(53).raw(Arrays.copyOfRange(full, 10, 63)).bytes());
        b.ok(Wire.read(1, 10, 53), new Wire().n4(53).raw(Arrays.copyOfRange(full, 10, 63)).bytes());
        b.ok(Wire.read(1, 10, 52), new Wire().n4(52).raw(Arrays.copyOfRange(full, 10, 62)).bytes());
    }

    private static void readDirectory() {
        Bench b = Bench.attached();
        b.make("b", 0x1ff, "");
        b.make("a", 0x800001ff, "");
        b.make("c", 0x80, "12");
        b.ok(Wire.walk(0, 1, "a"));
        b.ok(Wire.create(1, "deep", 0, 0));
        byte[] first = Wire.statOfFile(1, 0, 0x1ff, 4, 0, "b");
        byte[] second = Wire.statOfFile(2, 1, 0x800001ff, b.server.count(0), 0, "a");
        byte[] third = Wire.statOfFile(3, 1, 0x80, 11, 2, "c");
        b.ok(Wire.open(0, 0));
        b.error(5, Wire.read(0, 1, 1000));
        b.ok(Wire.read(0, 0, 1000), new Wire().n4(159).raw(first).raw(second).raw(third).bytes());
        b.ok(Wire.read(0, 159, 1000), new byte[4]);
        b.error(5, Wire.read(0, 53, 1000));
        b.ok(Wire.read(0, 0, 105), new Wire().n4(53).raw(first).bytes());
        b.error(5, Wire.read(0, 159, 1000));
        b.ok(Wire.read(0, 53, 52), new byte[4]);
        b.ok(Wire.read(0, 53, 53), new Wire().n4(53).raw(second).bytes());
        // What is told last may go, and new ones come; it goes on behind its path.
        b.ok(Wire.attach(5, Wire.NOFID, "", ""));
        b.ok(Wire.walk(5, 6, "b"));
        b.ok(Wire.remove(6));
        b.ok(Wire.walk(5, 6, "c"));
        b.ok(Wire.remove(6));
        b.ok(Wire.create(5, "new", 0, 0));
        byte[] made = Wire.statOfFile(5, 0, 0, b.server.count(0), 0, "new");
        b.ok(Wire.read(0, 106, 1000), new Wire().n4(55).raw(made).bytes());
        b.ok(Wire.read(0, 0, 1), new byte[4]);
        b.error(5, Wire.read(0, 161, 1000));
        b.ok(Wire.read(0, 0, 60), new Wire().n4(53).raw(second).bytes());
        // A created directory is open, and is read from its own beginning.
        b.ok(Wire.attach(7, Wire.NOFID, "", ""));
        b.ok(Wire.create(7, "dir", 0x80000000, 0));
        b.error(5, Wire.read(7, 53, 1000));
        b.ok(Wire.read(7, 0, 1000), new byte[4]);
        b.error(3, Wire.write(7, 0, "x"));
    }

    private static void remove() {
        Bench b = Bench.attached();
        b.make("d", 0x800001ff, "");
        b.server.snap();
        b.ok(Wire.walk(0, 1, "d"));
        b.ok(Wire.create(1, "f", 0, 0));
        b.ok(Wire.walk(0, 2, "d"));
        b.error(5, Wire.remove(2));
        b.noFid(2);
        b.ok(Wire.attach(2, Wire.NOFID, "", "s0"));
        b.ok(Wire.walk(2, 3, "d"));
        b.error(3, Wire.remove(2));
        b.error(3, Wire.remove(3));
        b.noFid(2);
        b.noFid(3);
        b.ok(Wire.walk(0, 4));
        b.error(3, Wire.remove(4));
        b.noFid(4);
        b.ok(Wire.walk(0, 2, "d"));
        int loose = b.server.count(5);
        b.ok(Wire.remove(1), new byte[0]);
        b.noFile(-1, 2);
        b.file(-1, 1, 0, 2, 0x800001ff, b.server.count(0), 0, 1);
        b.count(5, loose + 1);
        b.ok(Wire.remove(2));
        b.file(-1, 0, 0, 2, 0x800001ff, b.server.count(0), 0, 1);
        b.noFile(-1, 1);
        b.file(0, 1, 0, 0, 0x800001ff, 4, 0, 1);
        b.count(1, 1);
        b.count(2, 3);
    }

    private static void removeAtClunk() {
        Bench b = Bench.attached();
        b.ok(Wire.walk(0, 1));
        b.ok(Wire.create(1, "f", 0x1ff, 65));
        b.ok(Wire.walk(0, 2, "f"));
        b.ok(Wire.open(2, 64));
        b.ok(Wire.clunk(1), new byte[0]);
        b.noFile(-1, 1);
        b.noFid(1);
        b.file(-1, 0, 0, 2, 0x800001ff, b.server.count(0), 0, 1);
        b.count(5, 2);
        // Its file is gone already: nothing more goes.
        b.ok(Wire.clunk(2), new byte[0]);
        b.count(5, 2);
        b.file(-1, 0, 0, 2, 0x800001ff, b.server.count(0) - 1, 0, 1);
        // Only a clunk does so: not a version.
        b.ok(Wire.walk(0, 1));
        b.ok(Wire.create(1, "f", 0x1ff, 64));
        b.ok(Wire.version(100, "9P2000"));
        b.count(1, 2);
    }

    private static void lost() {
        Bench b = Bench.attached();
        b.make("d", 0x800001ff, "");
        for (int fid = 1; fid <= 4; fid++) {
            b.ok(Wire.walk(0, fid, "d"));
        }
        b.ok(Wire.open(3, 0));
        b.ok(Wire.remove(1));
        b.fid(2, -1, 1, 0, 0, 1);
        b.fid(3, -1, 1, 1, 0, 1);
        b.error(4, Wire.walk(2, 9));
        b.error(4, Wire.walk(3, 9));
        b.error(4, Wire.open(2, 3));
        b.error(4, Wire.create(2, "", 0, 3));
        b.error(4, Wire.read(3, 0, 1));
        b.error(4, Wire.write(3, 0, "x"));
        b.error(4, Wire.stat(2));
        b.error(4, Wire.sync(2));
        b.error(5, Wire.walk(0, 2));
        b.ok(Wire.clunk(2), new byte[0]);
        b.error(4, Wire.remove(3));
        b.noFid(3);
        b.error(2, Wire.remove(3));
        // One of the same name is another file.
        b.make("d", 0x800001ff, "");
        b.fid(4, -1, 1, 0, 0, 1);
    }

    private static void stat() {
        Bench b = Bench.attached();
        byte[] root = Wire.statOfFile(0, 0, 0x800001ff, 0, 0, "/");
        b.ok(Wire.stat(0), new Wire().n2(53).raw(root).bytes());
        b.make("name", 0x1a5, "12345");
        b.ok(Wire.walk(0, 1, "name"));
        b.ok(Wire.stat(1), new Wire().n2(56).raw(Wire.statOfFile(1, 1, 0x1a5, 6, 5, "name")).bytes());
        b.server.snap();
        b.ok(Wire.remove(1));
        b.ok(Wire.attach(2, Wire.NOFID, "", "s0"));
        b.ok(Wire.walk(2, 2, "name"));
        b.ok(Wire.stat(2), new Wire().n2(56).raw(Wire.statOfFile(1, 1, 0x1a5, 6, 5, "name")).bytes());
        b.error(2, Wire.stat(1));
    }
}
