import java.util.Arrays;

/** The boundary cases of 100, 102, 104, 108 and 110, of FIDS, and of the ERRORS 1, 2 and 4. */
final class EdgeSessionTest {
    public static void main(String[] args) {
        noVersionYet();
        noVersionAnyMore();
        noSuchFid();
        smallMsize();
        largeMsize();
        firstSixBytes();
        versionEndsAllFids();
        auth();
        afid();
        snapshotsToAttach();
        anamesThatAreNone();
        attachErrorsInOrder();
        numbersOfFids();
        flush();
        fidsAtMost();
        sixteenNames();
        walkErrorsInOrder();
        walkWithoutNames();
        walkToItself();
        upFromTheRoot();
        walkThatStops();
        namesAreWhole();
        lost();
        Bench.end();
    }

    private static byte[][] allBut100() {
        return new byte[][] {Wire.auth(0, "", ""), Wire.attach(0, 0, "", "x"), Wire.flush(0), Wire.walk(0, 0), Wire.open(0, 3),
            Wire.create(0, "", 0, 3), Wire.read(0, 1, 0), Wire.write(0, 513, ""), Wire.clunk(0), Wire.remove(0),
            Wire.stat(0), Wire.sync(0), Wire.attach(0, Wire.NOFID, "", "")};
    }

    /** "1 there was no version that was known since the beginning, or a crash (but for 100)" */
    private static void needsVersion(Bench b) {
        b.count(8, 0);
        for (byte[] message : allBut100()) {
            b.error(1, message);
        }
    }

    private static void noVersionYet() {
        Bench b = new Bench();
        needsVersion(b);
        b.ok(Wire.version(64, "9P2000"));
        b.ok(Wire.flush(0));
        b.error(2, Wire.stat(0));
    }

    private static void noVersionAnyMore() {
        Bench b = Bench.attached();
        b.server.crash(0);
        needsVersion(b);
        b = Bench.attached();
        b.error(3, Wire.version(63, "9P2000"));
        needsVersion(b);
        b = Bench.attached();
        b.ok(Wire.version(64, "9P200"));
        needsVersion(b);
        // A crash that is refused, and ILL bytes, leave the version.
        b = Bench.attached();
        Bench.due("crash(1)", -1, b.server.crash(1));
        b.ill(Arrays.copyOf(Wire.version(63, "9P2000"), 18));
        b.ok(Wire.stat(0));
    }

    /** "2 the fid is none (100, 102, 104, 108 aside)", ahead of all that is told at each one. */
    private static void noSuchFid() {
        Bench b = Bench.attached();
        b.ok(Wire.walk(0, 2));
        b.ok(Wire.clunk(0));
        for (byte[] message : allBut100()) {
            if (message[4] >= 110) {
                b.error(2, message);
            }
        }
        for (int number : new int[] {1, 3, -2, 2 + (1 << 8), 2 + (1 << 16), 2 | 1 << 31}) {
            b.error(2, Wire.stat(number));
        }
        b.ok(Wire.stat(2));
        // newfid, though it is there, is not the fid.
        b.error(2, Wire.walk(0, 2));
    }

    /** "msize below 64: ERROR 3 (there is no version then)." */
    private static void smallMsize() {
        for (int msize : new int[] {0, 1, 62, 63}) {
            Bench b = new Bench();
            b.error(3, Wire.version(msize, "9P2000"));
            b.count(8, 0);
            b = Bench.attached();
            b.ok(Wire.walk(0, 1));
            b.error(3, Wire.version(msize, "9P2000"));
            b.count(8, 0);
            b.count(3, 0);
            b.error(3, Wire.version(msize, "no"));
        }
        for (int msize : new int[] {64, 65}) {
            Bench b = new Bench();
            b.ok(Wire.version(msize, "9P2000"), new Wire().n4(msize).s("9P2000").bytes());
            b.count(8, msize);
            b.ok(Wire.version(msize, "no"), new Wire().n4(msize).s("unknown").bytes());
            b.count(8, 0);
        }
    }

    /** "MSIZE is the lesser of msize and 1000", whose four bytes have no sign. */
    private static void largeMsize() {
        for (int msize : new int[] {999, 1000, 1001, 65536, Integer.MAX_VALUE, Integer.MIN_VALUE, Integer.MIN_VALUE + 63, -2, -1}) {
            int due = msize == 999 ? 999 : 1000;
            Bench b = new Bench();
            b.ok(Wire.version(msize, "9P2000"), new Wire().n4(due).s("9P2000").bytes());
            b.count(8, due);
            b.ok(Wire.version(msize, "9P"), new Wire().n4(due).s("unknown").bytes());
            b.count(8, 0);
        }
    }

    /** "9P2000 if the first six bytes are these, else unknown (there is no version then)." */
    private static void firstSixBytes() {
        Bench b = new Bench();
        for (String known : new String[] {"9P2000", "9P2000.", "9P20000", "9P2000\0", "9P20009P2000"}) {
            b.ok(Wire.version(100, known), new Wire().n4(100).s("9P2000").bytes());
            b.count(8, 100);
        }
        for (String unknown : new String[] {"", "9", "9P200", "\u00009P2000", "P2000", "unknown"}) {
            b.ok(Wire.version(100, "9P2000"));
            b.ok(Wire.version(100, unknown), new Wire().n4(100).s("unknown").bytes());
            b.count(8, 0);
        }
        for (int i = 0; i < 6; i++) {
            for (int off : new int[] {-1, 1, 128}) {
                char[] text = "9P2000".toCharArray();
                text[i] += off;
                b.ok(Wire.version(100, "9P2000"));
                b.ok(Wire.version(100, new String(text)), new Wire().n4(100).s("unknown").bytes());
                b.count(8, 0);
            }
        }
    }

    /** "100: all FIDS are gone", whatever comes of it. */
    private static void versionEndsAllFids() {
        byte[][] versions = {Wire.version(64, "9P2000"), Wire.version(64, "no"), Wire.version(63, "9P2000")};
        for (int i = 0; i < 3; i++) {
            for (int many : new int[] {0, 1, 24}) {
                Bench b = withFids(many);
                if (i < 2) {
                    b.ok(versions[i]);
                } else {
                    b.error(3, versions[i]);
                }
                b.count(3, 0);
                b.noFid(0);
                b.noFid(23);
            }
        }
    }

    /** FIDS 0 to many - 1 at the live root. */
    private static Bench withFids(int many) {
        Bench b = Bench.attached();
        for (int fid = 1; fid < many; fid++) {
            b.ok(Wire.walk(0, fid));
        }
        if (many == 0) {
            b.ok(Wire.clunk(0));
        }
        b.count(3, many);
        return b;
    }

    /** "102: ERROR 3." */
    private static void auth() {
        Bench b = Bench.attached();
        for (int afid : new int[] {0, 1, -1}) {
            b.error(3, Wire.auth(afid, "u", ""));
        }
    }

    /** "3: afid is not 4294967295" */
    private static void afid() {
        Bench b = Bench.attached();
        for (int afid : new int[] {-2, 0, 1, Integer.MAX_VALUE, Integer.MIN_VALUE, 0xffff, 0xffff0000, 0x00ffffff}) {
            b.error(3, Wire.attach(1, afid, "u", ""));
        }
        b.ok(Wire.attach(1, -1, "u", ""));
    }

    /** "s and one digit, the number of a SNAPSHOT" */
    private static void snapshotsToAttach() {
        for (int many = 0; many <= 6; many++) {
            Bench b = Bench.attached();
            for (int k = 0; k < many; k++) {
                b.make("n" + k, 0, "");
                Bench.due("snap", k, b.server.snap());
            }
            for (int digit = 0; digit < 10; digit++) {
                byte[] attach = Wire.attach(10 + digit, Wire.NOFID, "u", "s" + digit);
                if (digit < many) {
                    b.ok(attach, Wire.qid(true, digit + 1, 0));
                    b.fid(10 + digit, digit, 0, 0, 0, 0);
                } else {
                    b.error(6, attach);
                }
            }
            b.ok(Wire.attach(30, Wire.NOFID, "u", ""), Wire.qid(true, many, 0));
            b.fid(30, -1, 0, 0, 0, 0);
        }
    }

    /** "6: aname is neither empty nor s and one digit" */
    private static void anamesThatAreNone() {
        Bench b = Bench.attached();
        for (int k = 0; k < 6; k++) {
            b.server.snap();
        }
        for (String aname : new String[] {"s", "0", "s/", "s:", "s\0", "s\u00b0", "r0", "t0", "S0", "\u00f30", "s00", "s01", "s0\0",
            "0s", " s0", "s 0", "s-1", "\0", "/"}) {
            b.error(6, Wire.attach(1, Wire.NOFID, "u", aname));
        }
        b.ok(Wire.attach(1, Wire.NOFID, "s9", "s0"));
    }

    /** Each cause is taken away in turn: 3, 5, 6, 7. */
    private static void attachErrorsInOrder() {
        Bench b = withFids(24);
        b.error(3, Wire.attach(5, -2, "", "s0"));
        b.error(5, Wire.attach(5, -1, "", "s0"));
        b.error(6, Wire.attach(24, -1, "", "s0"));
        b.server.snap();
        b.error(7, Wire.attach(24, -1, "", "s0"));
        b.ok(Wire.clunk(5));
        b.ok(Wire.attach(24, -1, "", "s0"));
        b.count(3, 24);
        b.error(5, Wire.attach(24, -1, "", "s0"));
        b.error(7, Wire.attach(5, -1, "", ""));
    }

    /** "FIDS have numbers (4 bytes, as told by clients)": all of them are other ones. */
    private static void numbersOfFids() {
        int[] numbers = {0, 1, 255, 256, 65536, 1 << 24, Integer.MAX_VALUE, Integer.MIN_VALUE, -2, -1};
        Bench b = new Bench();
        b.ok(Wire.version(1000, "9P2000"));
        for (int i = 0; i < numbers.length; i++) {
            b.noFid(numbers[i]);
            b.ok(Wire.attach(numbers[i], -1, "", ""));
            b.count(3, i + 1);
            b.error(5, Wire.attach(numbers[i], -1, "", ""));
        }
        for (int i = 0; i < numbers.length; i++) {
            b.fid(numbers[i], -1, 0, 0, 0, 0);
            b.ok(Wire.clunk(numbers[i]));
            b.noFid(numbers[i]);
            b.count(3, numbers.length - 1 - i);
            b.error(2, Wire.clunk(numbers[i]));
        }
        b.ok(Wire.attach(-1, -1, "", ""));
        b.ok(Wire.walk(-1, Integer.MIN_VALUE));
        b.fid(Integer.MIN_VALUE, -1, 0, 0, 0, 0);
    }

    /** "108: nothing." */
    private static void flush() {
        Bench b = Bench.attached();
        for (int oldtag : new int[] {0, 1, 2, 0x7fff, 0x8000, 0xffff}) {
            State before = new State(b.server);
            b.ok(Wire.flush(oldtag), new byte[0]);
            b.unchanged("flush", before, "count(0)", "count(10)", "answer(");
        }
    }

    /** "FIDS (24 at most)", for 104 ("7: no room") and for 110 ("7: no room for newfid"). */
    private static void fidsAtMost() {
        Bench b = withFids(23);
        b.ok(Wire.attach(23, -1, "", ""));
        b.count(3, 24);
        b.error(7, Wire.attach(24, -1, "", ""));
        b.error(7, Wire.walk(0, 24));
        // newfid that is fid needs none.
        b.ok(Wire.walk(23, 23));
        b.ok(Wire.walk(23, 23, ".."));
        b.ok(Wire.clunk(3));
        b.count(3, 23);
        b.ok(Wire.walk(0, 24));
        b.count(3, 24);
        b.error(7, Wire.walk(0, 3));
        b.error(3, Wire.remove(24));
        b.count(3, 23);
        b.ok(Wire.attach(3, -1, "", ""));
        b.error(7, Wire.attach(24, -1, "", ""));
    }

    private static String[] ups(int many) {
        String[] names = new String[many];
        Arrays.fill(names, "..");
        return names;
    }

    /** "6: n above 16" */
    private static void sixteenNames() {
        for (int many : new int[] {1, 15, 16, 17, 18, 255, 256, 300}) {
            Bench b = Bench.attached();
            byte[] toNew = Wire.walk(0, 1, ups(many));
            byte[] toSame = Wire.walk(0, 0, ups(many));
            if (many > 16) {
                b.error(6, toNew);
                b.error(6, toSame);
                continue;
            }
            byte[] due = sameQids(many, many, Wire.qid(true, 0, 0)).bytes();
            b.ok(toNew, due);
            b.ok(toSame, due);
            b.fid(1, -1, 0, 0, 0, 0);
        }
    }

    /** Each cause is taken away in turn: 2, 4, 3, 5, 6, 7, 8. */
    private static void walkErrorsInOrder() {
        Bench b = withFids(20);
        b.make("d", 0x800001ff, "");
        for (int fid = 20; fid < 24; fid++) {
            b.ok(Wire.walk(0, fid, "d"));
        }
        b.ok(Wire.open(20, 0));
        b.ok(Wire.remove(21));
        b.ok(Wire.walk(0, 21));
        b.ok(Wire.open(1, 0));
        String[] names = ups(17);
        names[0] = "x";
        b.error(2, Wire.walk(24, 2, names));
        b.error(4, Wire.walk(20, 2, names));
        b.error(3, Wire.walk(1, 2, names));
        b.error(5, Wire.walk(3, 2, names));
        // One that is LOST is there, too.
        b.error(5, Wire.walk(3, 22, names));
        b.error(6, Wire.walk(3, 24, names));
        b.error(7, Wire.walk(3, 24, "x"));
        b.error(7, Wire.walk(3, 24, ".."));
        b.error(8, Wire.walk(3, 3, "x"));
        b.ok(Wire.clunk(23));
        b.error(8, Wire.walk(3, 24, "x"));
        b.ok(Wire.walk(3, 24, ".."));
    }

    /** "if these are all, newfid is at the last one (without names: at the FILE)" */
    private static void walkWithoutNames() {
        Bench b = Bench.attached();
        b.make("f", 0x1ff, "");
        b.ok(Wire.walk(0, 1, "f"));
        b.ok(Wire.walk(1, 2), new byte[2]);
        b.fid(2, -1, 1, 0, 0, 0);
        b.ok(Wire.walk(1, 1), new byte[2]);
        b.fid(1, -1, 1, 0, 0, 0);
        b.ok(Wire.open(1, 0));
        b.error(3, Wire.walk(1, 3));
        b.error(3, Wire.walk(1, 1));
    }

    /** newfid that is fid goes to the last one itself, if it comes so far. */
    private static void walkToItself() {
        Bench b = Bench.attached();
        b.make("d", 0x800001ff, "");
        b.make("f", 0x1ff, "");
        b.ok(Wire.walk(0, 1));
        b.ok(Wire.walk(1, 1, "d"));
        b.fid(1, -1, 1, 0, 0, 0);
        b.ok(Wire.walk(1, 1, "..", "d", "x"));
        b.fid(1, -1, 1, 0, 0, 0);
        b.ok(Wire.walk(1, 1, "..", "f"));
        b.fid(1, -1, 2, 0, 0, 0);
        b.fid(0, -1, 0, 0, 0, 0);
        b.count(3, 2);
    }

    /** "it is in itself, as far as .. goes" */
    private static void upFromTheRoot() {
        Bench b = Bench.attached();
        b.make("d", 0x800001ff, "");
        b.ok(Wire.walk(0, 1, ".."), new Wire().n2(1).raw(Wire.qid(true, 1, 0)).bytes());
        b.fid(1, -1, 0, 0, 0, 0);
        b.ok(Wire.walk(0, 2, "..", "d", "..", "..", "d"));
        b.fid(2, -1, 1, 0, 0, 0);
        // But it is not among its own FILES.
        b.error(8, Wire.walk(0, 3, "/"));
        b.file(-1, 0, 0, 1, 0x800001ff, 4, 1, 1);
        // A SNAPSHOT's ROOT is in itself, too, and not in the LIVE TREE.
        b.server.snap();
        b.make("later", 0x1ff, "");
        b.ok(Wire.attach(3, Wire.NOFID, "", "s0"));
        b.ok(Wire.walk(3, 4, "d", "..", ".."), new Wire().n2(3).raw(Wire.qid(true, 0, 1)).raw(Wire.qid(true, 1, 0))
                .raw(Wire.qid(true, 1, 0)).bytes());
        b.fid(4, 0, 0, 0, 0, 0);
        b.error(8, Wire.walk(4, 5, "later"));
    }

    /** "it stops where it is no DIRECTORY, or there is none such. If it stops at the first one: 8." */
    private static void walkThatStops() {
        Bench b = Bench.attached();
        b.make("f", 0x1ff, "");
        b.make("d", 0x800001ff, "");
        byte[] f = Wire.qid(false, 0, 1);
        byte[] d = Wire.qid(true, 0, 2);
        byte[] root = Wire.qid(true, 2, 0);
        b.ok(Wire.walk(0, 1, "f"));
        b.error(8, Wire.walk(0, 9, "x"));
        b.error(8, Wire.walk(0, 9, "x", "d"));
        b.error(8, Wire.walk(1, 9, "f"));
        b.error(8, Wire.walk(1, 9, ".."));
        b.error(8, Wire.walk(1, 1, "..", "d"));
        // At the second of two, and at the last of sixteen: newfid is not there, and fid stays.
        b.ok(Wire.walk(0, 9, "f", ".."), new Wire().n2(1).raw(f).bytes());
        b.ok(Wire.walk(0, 9, "f", "x"), new Wire().n2(1).raw(f).bytes());
        b.ok(Wire.walk(0, 9, "d", "f"), new Wire().n2(1).raw(d).bytes());
        b.ok(Wire.walk(0, 0, "d", "f"), new Wire().n2(1).raw(d).bytes());
        String[] names = ups(16);
        names[15] = "x";
        b.ok(Wire.walk(0, 9, names), sameQids(15, 15, root).bytes());
        b.ok(Wire.walk(0, 0, names), sameQids(15, 15, root).bytes());
        b.noFid(9);
        b.fid(0, -1, 0, 0, 0, 0);
        b.count(3, 2);
        names[15] = "f";
        b.ok(Wire.walk(0, 9, names), sameQids(16, 15, root).raw(f).bytes());
        b.fid(9, -1, 1, 0, 0, 0);
    }

    private static Wire sameQids(int told, int many, byte[] qid) {
        Wire wire = new Wire().n2(told);
        for (int i = 0; i < many; i++) {
            wire.raw(qid);
        }
        return wire;
    }

    /** "the FILE of that NAME": all of it, and no more. */
    private static void namesAreWhole() {
        Bench b = Bench.attached();
        String twenty = "twenty-bytes-long-na";
        b.make(twenty, 0, "");
        b.make("ab", 0, "");
        b.make("\u00e9\u00ff\u0080", 0, "");
        for (String none : new String[] {"", "a", "abc", "ab\0", "Ab", "b", "ba", twenty + "m", twenty.substring(0, 19), ".",
            "\u00e9\u00ff", "\u00e9\u00ff\0", "i\u007f\0", "\u00e9\u00ff\u0081", ".a", "a.", "...", "/.", "..\0"}) {
            b.error(8, Wire.walk(0, 1, none));
        }
        b.ok(Wire.walk(0, 1, twenty));
        b.ok(Wire.walk(0, 2, "ab"));
        b.ok(Wire.walk(0, 3, "\u00e9\u00ff\u0080"));
        b.fid(1, -1, 1, 0, 0, 0);
        b.fid(2, -1, 2, 0, 0, 0);
        b.fid(3, -1, 3, 0, 0, 0);
    }

    /** "A FID of the LIVE TREE whose FILE is no more is LOST: ERROR 4 (behind 2, ahead of 3) for all but 120." */
    private static void lost() {
        Bench b = Bench.attached();
        b.make("f", 0x1ff, "");
        b.server.snap();
        for (int fid = 1; fid < 5; fid++) {
            b.ok(Wire.walk(0, fid, "f"));
        }
        b.ok(Wire.attach(6, Wire.NOFID, "", "s0"));
        b.ok(Wire.walk(6, 7, "f"));
        b.ok(Wire.open(2, 2));
        b.fid(1, -1, 1, 0, 0, 0);
        b.fid(2, -1, 1, 1, 2, 0);
        b.ok(Wire.remove(4));
        b.fid(1, -1, 1, 0, 0, 1);
        b.fid(2, -1, 1, 1, 2, 1);
        b.fid(7, 0, 1, 0, 0, 0);
        b.count(3, 6);
        for (int fid = 1; fid < 3; fid++) {
            byte[][] messages = {Wire.walk(fid, 0, ups(17)), Wire.walk(fid, fid), Wire.open(fid, 3), Wire.open(fid, 0),
                Wire.create(fid, "", 0, 3), Wire.read(fid, 0, 1), Wire.read(fid, 1, 1), Wire.write(fid, 0, "x"),
                Wire.write(fid, 513, "x"), Wire.stat(fid), Wire.sync(fid), Wire.wstat(fid, "/", 0, 0, 513)};
            for (byte[] message : messages) {
                b.error(4, message);
            }
        }
        b.ok(Wire.clunk(1), new byte[0]);
        b.noFid(1);
        b.error(4, Wire.remove(2));
        b.noFid(2);
        b.error(2, Wire.stat(2));
        b.ok(Wire.stat(7));
        b.count(3, 4);
    }
}
