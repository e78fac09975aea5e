/** Promise 4, with 10 and 11: wstat, its errors, and SYNC. */
final class WstatTest {
    public static void main(String[] args) {
        errors();
        order();
        name();
        modeAndTime();
        length();
        noChange();
        sync();
        Bench.end();
    }

    private static void errors() {
        Bench b = Bench.twoFiles();
        for (int i = 0; i < 19; i++) {
            byte[] fixed = Wire.ones(19);
            fixed[i] = (byte) 0x7f;
            b.error(5, Wire.wstat(1, Wire.statOf(fixed, -1, -1, -1, -1, "", "", "", "")));
        }
        b.error(5, Wire.wstat(1, Wire.statOf(Wire.ones(19), -1, 0, -1, -1, "", "", "", "")));
        b.error(5, Wire.wstat(1, Wire.statOf(Wire.ones(19), -1, -1, -1, -1, "", "g", "", "")));
        b.error(5, Wire.wstat(1, Wire.statOf(Wire.ones(19), -1, -1, -1, -1, "", "", "g", "")));
        b.error(5, Wire.wstat(1, Wire.statOf(Wire.ones(19), -1, -1, -1, -1, "", "", "", "g")));
        b.error(6, Wire.wstat(0, "x", -1, -1, -1));
        b.error(6, Wire.wstat(0, "/", -1, -1, -1));
        for (String name : new String[] {".", "..", "a/b", "a\0", "twenty-one-bytes-long"}) {
            b.error(6, Wire.wstat(1, name, -1, -1, -1));
        }
        b.error(7, Wire.wstat(1, "d", -1, -1, -1));
        b.error(7, Wire.wstat(2, "f", -1, -1, -1));
        b.error(8, Wire.wstat(1, "", 0x800001ff, -1, -1));
        b.error(8, Wire.wstat(2, "", 0x1ff, -1, -1));
        b.error(8, Wire.wstat(1, "", 0x200, -1, -1));
        b.error(8, Wire.wstat(1, "", 0x40000000, -1, -1));
        b.error(8, Wire.wstat(2, "", 0xc0000000, -1, -1));
        b.error(9, Wire.wstat(2, "", -1, -1, 0));
        b.error(9, Wire.wstat(0, "", -1, -1, 0));
        b.error(9, Wire.wstat(1, "", -1, -1, 513));
        b.error(9, Wire.wstat(1, "", -1, -1, -2));
        b.error(9, Wire.wstat(1, "", -1, -1, 0xffffffffL));
        b.count(5, 0);
        b.file(-1, 1, 0, 1, 0x1ff, 5, 4, 1);
    }

    private static void order() {
        Bench b = Bench.twoFiles();
        b.server.snap();
        b.ok(Wire.attach(3, Wire.NOFID, "", "s0"));
        byte[] zeros = new byte[19];
        b.error(3, Wire.wstat(3, Wire.statOf(zeros, 0, 0, 0, 0, "", "", "", "")));
        b.error(3, Wire.sync(3));
        b.error(5, Wire.wstat(2, Wire.statOf(zeros, 0, 0, 0, 0, "f", "", "", "")));
        b.error(6, Wire.wstat(2, ".", 0, 0, 0));
        b.error(7, Wire.wstat(2, "f", 0, 0, 0));
        b.error(8, Wire.wstat(2, "", 0, 0, 0));
        b.error(9, Wire.wstat(2, "", 0x80000000, 0, 0));
        b.error(2, Wire.sync(8));
    }

    private static void name() {
        Bench b = Bench.twoFiles();
        b.ok(Wire.wstat(1, "twenty-bytes-long-na", -1, -1, -1), new byte[0]);
        b.file(-1, 1, 0, 1, 0x1ff, 5, 4, 20);
        b.file(-1, 0, 0, 2, 0x800001ff, 8, 2, 1);
        b.count(5, 1);
        b.error(8, Wire.walk(0, 9, "f"));
        b.ok(Wire.walk(0, 9, "twenty-bytes-long-na"));
        b.ok(Wire.wstat(2, "f", -1, -1, -1));
        b.ok(Wire.walk(0, 10, "f"));
        b.fid(10, -1, 2, 0, 0, 0);
        // The name of a file in another directory is free.
        b.ok(Wire.create(2, "f", 0, 0));
        b.ok(Wire.wstat(2, "twenty-bytes-long-na", -1, -1, -1));
        b.file(-1, 3, 2, 0, 0, b.server.count(0) - 1, 0, 20);
    }

    private static void modeAndTime() {
        Bench b = Bench.twoFiles();
        b.ok(Wire.wstat(1, "", 0x81, -1, -1));
        b.file(-1, 1, 0, 1, 0x81, 5, 4, 1);
        b.ok(Wire.wstat(1, "", -1, -2, -1));
        b.file(-1, 1, 0, 1, 0x81, -2, 4, 1);
        b.ok(Wire.wstat(2, "", 0x80000000, 77, -1));
        b.file(-1, 2, 0, 0, 0x80000000, 77, 0, 1);
        b.ok(Wire.wstat(0, "", 0x800000ff, 3, -1));
        b.file(-1, 0, 0, 2, 0x800000ff, 3, 2, 1);
        b.count(5, 4);
        b.error(7, Wire.open(0, 0));
    }

    private static void length() {
        Bench b = Bench.twoFiles();
        b.ok(Wire.wstat(1, "", -1, -1, 2));
        b.file(-1, 1, 0, 2, 0x1ff, b.server.count(0), 2, 1);
        b.ok(Wire.wstat(1, "", -1, 9, 6));
        b.file(-1, 1, 0, 3, 0x1ff, 9, 6, 1);
        b.ok(Wire.walk(1, 4));
        b.ok(Wire.open(4, 0));
        b.ok(Wire.read(4, 0, 99), new Wire().n4(6).raw("da".getBytes()).n4(0).bytes());
        b.ok(Wire.wstat(1, "", -1, -1, 512));
        b.file(-1, 1, 0, 4, 0x1ff, b.server.count(0), 512, 1);
        b.ok(Wire.wstat(1, "g", 0, -1, 0));
        b.file(-1, 1, 0, 5, 0, b.server.count(0), 0, 1);
        b.count(5, 4);
    }

    private static void noChange() {
        Bench b = Bench.twoFiles();
        b.ok(Wire.wstat(1, "f", 0x1ff, 5, 4), new byte[0]);
        b.ok(Wire.wstat(1, "f", -1, -1, -1));
        b.ok(Wire.wstat(1, "", 0x1ff, -1, -1));
        b.ok(Wire.wstat(1, "", -1, 5, -1));
        b.ok(Wire.wstat(1, "", -1, -1, 4));
        b.file(-1, 1, 0, 1, 0x1ff, 5, 4, 1);
        b.count(5, 0);
        // It is no SYNC either.
        b.ok(Wire.wstat(1, "", 0, -1, -1));
        b.ok(Wire.wstat(1, "", 0, -1, -1));
        b.count(5, 1);
    }

    private static void sync() {
        Bench b = Bench.twoFiles();
        b.make("x", 0, "");
        b.count(5, 1);
        b.ok(Wire.sync(1), new byte[0]);
        b.count(5, 0);
        Bench.due("crash(1)", -1, b.server.crash(1));
        b.make("y", 0, "");
        Bench.due("crash(1)", 1, b.server.crash(1));
        b.count(1, 4);
        b.file(-1, 3, 0, 0, 0, 14, 0, 1);
        b.noFile(-1, 4);
    }
}
