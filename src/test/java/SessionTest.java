/** Promise 4, with 12: version, auth, attach, flush, walk, clunk. */
final class SessionTest {
    public static void main(String[] args) {
        version();
        attach();
        authAndFlush();
        walk();
        walkErrors();
        roomForFids();
        Bench.end();
    }

    private static void version() {
        Bench b = new Bench();
        b.ok(Wire.version(64, "9P2000"), new Wire().n4(64).s("9P2000").bytes());
        b.count(8, 64);
        b.ok(Wire.version(999, "9P2000.u"), new Wire().n4(999).s("9P2000").bytes());
        b.ok(Wire.version(1001, "9P20001"), new Wire().n4(1000).s("9P2000").bytes());
        b.ok(Wire.version(-1, "9P2000"), new Wire().n4(1000).s("9P2000").bytes());
        b.count(8, 1000);
        b.ok(Wire.attach(3, Wire.NOFID, "", ""));
        b.ok(Wire.version(70, "9P2000"));
        b.count(3, 0);
        b.ok(Wire.attach(3, Wire.NOFID, "", ""));
        for (String unknown : new String[] {"", "9P200", "9p2000", " 9P2000"}) {
            b.ok(Wire.version(2000, unknown), new Wire().n4(1000).s("unknown").bytes());
            b.count(8, 0);
            b.count(3, 0);
            b.error(1, Wire.flush(1));
        }
        b.ok(Wire.version(200, "9P2000"));
        b.ok(Wire.attach(3, Wire.NOFID, "", ""));
        b.error(3, Wire.version(63, "9P2000"));
        b.count(8, 0);
        b.count(3, 0);
        b.error(1, Wire.stat(3));
        b.error(3, Wire.version(0, "9P2000"));
    }

    private static void attach() {
        Bench b = Bench.attached();
        b.error(3, Wire.attach(0, 0, "", "no"));
        b.error(5, Wire.attach(0, Wire.NOFID, "", "no"));
        for (String aname : new String[] {"s0", "s", "x", "s/", "s:", "S0", "00"}) {
            b.error(6, Wire.attach(1, Wire.NOFID, "", aname));
        }
        b.make("f", 0x1ff, "");
        b.server.snap();
        b.server.snap();
        b.make("g", 0x1ff, "");
        b.error(6, Wire.attach(1, Wire.NOFID, "", "s2"));
        b.error(6, Wire.attach(1, Wire.NOFID, "", "s00"));
        b.error(6, Wire.attach(1, Wire.NOFID, "", "s0 "));
        b.noFid(1);
        b.ok(Wire.attach(1, Wire.NOFID, "who", "s1"), Wire.qid(true, 1, 0));
        b.ok(Wire.attach(-1, Wire.NOFID, "who", ""), Wire.qid(true, 2, 0));
        b.fid(1, 1, 0, 0, 0, 0);
        b.fid(-1, -1, 0, 0, 0, 0);
    }

    private static void authAndFlush() {
        Bench b = Bench.attached();
        b.error(3, Wire.auth(7, "u", ""));
        b.noFid(7);
        b.ok(Wire.flush(9), new byte[0]);
    }

    private static void walk() {
        Bench b = Bench.attached();
        b.make("d", 0x800001ff, "");
        b.ok(Wire.walk(0, 1, "d"), new Wire().n2(1).raw(Wire.qid(true, 0, 1)).bytes());
        b.ok(Wire.walk(1, 2), new byte[2]);
        b.ok(Wire.create(2, "f", 0x1ff, 1));
        b.fid(1, -1, 1, 0, 0, 0);
        b.fid(2, -1, 2, 1, 1, 0);
        byte[] both = new Wire().n2(2).raw(Wire.qid(true, 1, 1)).raw(Wire.qid(false, 0, 2)).bytes();
        b.ok(Wire.walk(0, 3, "d", "f"), both);
        b.fid(3, -1, 2, 0, 0, 0);
        // It stops at what is no directory, and at what is not there: then newfid is not made.
        b.ok(Wire.walk(0, 4, "d", "f", ".."), both);
        b.noFid(4);
        b.ok(Wire.walk(0, 4, "d", "x"), new Wire().n2(1).raw(Wire.qid(true, 1, 1)).bytes());
        b.noFid(4);
        b.ok(Wire.walk(0, 0, "d", "x"));
        b.fid(0, -1, 0, 0, 0, 0);
        b.error(8, Wire.walk(3, 4, ".."));
        b.error(8, Wire.walk(3, 4, "f"));
        b.ok(Wire.walk(3, 4));
        b.fid(4, -1, 2, 0, 0, 0);
        b.ok(Wire.walk(1, 1, "..", "..", "d", "..", "d"));
        b.fid(1, -1, 1, 0, 0, 0);
        b.ok(Wire.walk(1, 1, ".."), new Wire().n2(1).raw(Wire.qid(true, 1, 0)).bytes());
        b.fid(1, -1, 0, 0, 0, 0);
        b.ok(Wire.walk(1, 1));
        // In a snapshot it goes on as it was then.
        b.server.snap();
        b.ok(Wire.remove(3));
        b.ok(Wire.attach(9, Wire.NOFID, "", "s0"));
        b.ok(Wire.walk(9, 10, "d", "f"), both);
        b.fid(10, 0, 2, 0, 0, 0);
        b.ok(Wire.walk(0, 11, "d", "f"), new Wire().n2(1).raw(Wire.qid(true, 2, 1)).bytes());
        b.ok(Wire.clunk(10), new byte[0]);
        b.noFid(10);
        b.error(2, Wire.clunk(10));
    }

    private static void walkErrors() {
        Bench b = Bench.attached();
        b.error(2, Wire.walk(1, 0));
        b.ok(Wire.walk(0, 1));
        String[] up16 = new String[16];
        java.util.Arrays.fill(up16, "..");
        String[] up17 = java.util.Arrays.copyOf(up16, 17);
        up17[16] = "";
        b.error(5, Wire.walk(0, 1, up17));
        b.error(6, Wire.walk(0, 2, up17));
        b.error(6, Wire.walk(0, 0, up17));
        b.ok(Wire.walk(0, 2, up16));
        for (String none : new String[] {"", ".", "/", "x"}) {
            b.error(8, Wire.walk(0, 3, none, ".."));
        }
        b.ok(Wire.open(0, 0));
        b.error(3, Wire.walk(0, 1));
        b.error(3, Wire.walk(0, 0));
    }

    private static void roomForFids() {
        Bench b = Bench.attached();
        for (int fid = 1; fid < 24; fid++) {
            b.ok(Wire.walk(0, fid));
        }
        b.count(3, 24);
        b.error(7, Wire.walk(0, 24, "x"));
        b.error(7, Wire.attach(24, Wire.NOFID, "", ""));
        b.error(6, Wire.attach(24, Wire.NOFID, "", "x"));
        b.error(5, Wire.walk(0, 23));
        b.ok(Wire.walk(0, 0, ".."));
        b.ok(Wire.clunk(7));
        b.ok(Wire.attach(24, Wire.NOFID, "", ""));
        b.count(3, 24);
    }
}
