import java.util.Arrays;

/** The boundary cases of 126, and of what is a CHANGE and what a SYNC. */
final class EdgeWstatTest {
    private static final String TWENTY = "twenty-bytes-long-na";

    public static void main(String[] args) {
        eachBitThatMustBeOne();
        eachTextThatMustBeEmpty();
        lengthsOfNames();
        bytesOfNames();
        nameOfTheRoot();
        namesOfOthers();
        eachBitOfAFilesMode();
        eachBitOfADirectorysMode();
        modeOfAllOnes();
        mtimes();
        lengths();
        lengthsThatAreTooLarge();
        lengthOfADirectory();
        lengthAndMtime();
        cutAndGrown();
        errorsInOrder();
        nothingThatItWas();
        eachPartAloneIsAChange();
        allOnesIsASync();
        Bench.end();
    }

    /** "5: type, dev, qid, atime, .. are not all ones (all bits 1 ..)": a single bit is enough. */
    private static void eachBitThatMustBeOne() {
        Bench b = Bench.twoFiles();
        for (int fid = 0; fid < 3; fid++) {
            byte[] sync = Wire.sync(fid);
            // Behind head, fid, n and the STAT's own number: type[2] dev[4] qid[13], mode[4], atime[4].
            for (int at = 15; at < 42; at++) {
                boolean mode = at >= 34 && at < 38;
                for (int bit = 0; bit < 8 && !mode; bit++) {
                    byte[] message = sync.clone();
                    message[at] ^= (byte) (1 << bit);
                    b.error(5, message);
                }
            }
        }
        b.error(5, Wire.wstat(1, Wire.statOf(new byte[19], -1, -1, -1, -1, "", "", "", "")));
        b.error(5, Wire.wstat(1, Wire.statOf(Wire.ones(19), -1, 0, -1, -1, "", "", "", "")));
    }

    /** "uid, gid, muid are not all ones (.. an empty s)" */
    private static void eachTextThatMustBeEmpty() {
        Bench b = Bench.twoFiles();
        for (int which = 1; which < 4; which++) {
            for (String text : new String[] {"g", "\0", "\u00ff", "gg", "x".repeat(300)}) {
                String[] texts = {"", "", "", ""};
                texts[which] = text;
                b.error(5, Wire.wstat(1, Wire.statOf(Wire.ones(19), -1, -1, -1, -1, texts)));
                texts[0] = "new";
                b.error(5, Wire.wstat(1, Wire.statOf(Wire.ones(19), -1, -1, -1, -1, texts)));
            }
        }
    }

    private static void becomes(Bench b, int fid, String name, boolean may) {
        byte[] message = Wire.wstat(fid, name, -1, -1, -1);
        if (may) {
            b.ok(message, new byte[0]);
            Bench.due("bytes of NAME", name.length(), b.server.file(-1, fid, 5));
            b.ok(Wire.walk(0, 9, name));
            b.ok(Wire.clunk(9));
        } else {
            b.error(6, message);
        }
    }

    /** "6: name is not empty, .. or may not be": 1 to 20 bytes. */
    private static void lengthsOfNames() {
        Bench b = Bench.twoFiles();
        for (int fid = 1; fid < 3; fid++) {
            for (int length : new int[] {1, 2, 19, 20, 21, 22, 256, 257, 276}) {
                becomes(b, fid, String.valueOf((char) ('x' + fid)).repeat(length), length <= 20);
                becomes(b, fid, ".".repeat(length), length > 2 && length <= 20);
                b.ok(Wire.wstat(fid, "name" + fid, -1, -1, -1));
            }
            becomes(b, fid, TWENTY, true);
            b.ok(Wire.wstat(fid, "name" + fid, -1, -1, -1));
        }
    }

    /** "none of them 0 or 47, not . nor .." */
    private static void bytesOfNames() {
        Bench b = Bench.twoFiles();
        for (int code = 0; code < 256; code++) {
            String one = String.valueOf((char) code);
            boolean may = code != 0 && code != 47;
            becomes(b, 1, one + "x", may);
            becomes(b, 1, "nineteen-bytes-long" + one, may);
            // The other file is d.
            if (code != 'd') {
                becomes(b, 1, one, may && code != 46);
            }
        }
        becomes(b, 1, "..", false);
        becomes(b, 1, "...", true);
        becomes(b, 1, ".a", true);
        becomes(b, 1, "a.", true);
    }

    /** "6: name is not empty, and the ROOT" */
    private static void nameOfTheRoot() {
        Bench b = Bench.twoFiles();
        for (String name : new String[] {"/", "x", "f", "..", TWENTY + "m"}) {
            b.error(6, Wire.wstat(0, name, -1, -1, -1));
        }
        b.ok(Wire.wstat(0, "", 0x80000180, -1, -1));
        b.file(-1, 0, 0, 2, 0x80000180, 8, 2, 1);
    }

    /** "7: name is another FILE's in that DIRECTORY" */
    private static void namesOfOthers() {
        Bench b = Bench.twoFiles();
        b.error(7, Wire.wstat(1, "d", -1, -1, -1));
        b.error(7, Wire.wstat(2, "f", -1, -1, -1));
        b.ok(Wire.walk(0, 3, "d"));
        b.ok(Wire.create(3, "g", 0x1ff, 0));
        // g is d's, not the ROOT's; its own name is not another's; a part of one, or more than one, is free.
        b.ok(Wire.wstat(1, "g", -1, -1, -1));
        b.error(7, Wire.wstat(2, "g", -1, -1, -1));
        b.ok(Wire.wstat(3, "d", -1, -1, -1));
        b.ok(Wire.wstat(3, "d", -1, -1, -1));
        b.ok(Wire.wstat(2, "gg", -1, -1, -1));
        b.ok(Wire.wstat(1, "ggg", -1, -1, -1));
        b.ok(Wire.wstat(2, "g", -1, -1, -1));
        // The name of one that is gone, or has another one now, is free.
        b.ok(Wire.wstat(1, "gg", -1, -1, -1));
        b.ok(Wire.remove(1));
        b.ok(Wire.wstat(2, "gg", -1, -1, -1));
        b.file(-1, 2, 0, 1, 0x800001ff, b.server.file(-1, 3, 3), 1, 2);
    }

    /** "8: mode is not all ones, and bit 31 is not its own, or has bits that a MODE may not have" */
    private static void eachBitOfAFilesMode() {
        for (int bit = 0; bit < 32; bit++) {
            Bench b = Bench.twoFiles();
            if (bit < 9) {
                b.ok(Wire.wstat(1, "", 1 << bit, -1, -1), new byte[0]);
                b.file(-1, 1, 0, 1, 1 << bit, 5, 4, 1);
                b.count(5, 1);
            } else {
                b.error(8, Wire.wstat(1, "", 1 << bit, -1, -1));
                b.error(8, Wire.wstat(1, "", 1 << bit | 0x1ff, -1, -1));
                b.error(8, Wire.wstat(1, "", ~(1 << bit), -1, -1));
            }
        }
        Bench b = Bench.twoFiles();
        b.ok(Wire.wstat(1, "", 0, -1, -1));
        b.ok(Wire.wstat(1, "", 0x1ff, -1, -1));
        b.error(8, Wire.wstat(1, "", 0x200, -1, -1));
        b.error(8, Wire.wstat(1, "", -2, -1, -1));
        b.count(5, 2);
    }

    private static void eachBitOfADirectorysMode() {
        for (int bit = 0; bit < 31; bit++) {
            Bench b = Bench.twoFiles();
            int mode = 1 << bit | 0x80000000;
            if (bit < 9) {
                b.ok(Wire.wstat(2, "", mode, -1, -1), new byte[0]);
                b.file(-1, 2, 0, 0, mode, 8, 0, 1);
            } else {
                b.error(8, Wire.wstat(2, "", mode, -1, -1));
            }
            b.error(8, Wire.wstat(2, "", 1 << bit, -1, -1));
            b.error(8, Wire.wstat(0, "", 1 << bit, -1, -1));
            b.error(8, Wire.wstat(2, "", ~(1 << bit), -1, -1));
        }
        Bench b = Bench.twoFiles();
        b.error(8, Wire.wstat(2, "", 0, -1, -1));
        b.error(8, Wire.wstat(2, "", 0x1ff, -1, -1));
        b.ok(Wire.wstat(2, "", 0x80000000, -1, -1));
        b.ok(Wire.wstat(2, "", 0x800001ff, -1, -1));
        b.error(8, Wire.wstat(2, "", 0x80000200, -1, -1));
    }

    /** All ones leave a MODE, though bit 31 of them is no file's own. */
    private static void modeOfAllOnes() {
        Bench b = Bench.twoFiles();
        b.ok(Wire.wstat(1, "", -1, 7, -1));
        b.file(-1, 1, 0, 1, 0x1ff, 7, 4, 1);
        b.ok(Wire.wstat(2, "", -1, 7, -1));
        b.file(-1, 2, 0, 0, 0x800001ff, 7, 0, 1);
    }

    /** "MTIME (mtime not all ones)" */
    private static void mtimes() {
        Bench b = Bench.twoFiles();
        for (int fid = 0; fid < 3; fid++) {
            for (int mtime : new int[] {0, 1, Integer.MAX_VALUE, Integer.MIN_VALUE, -3, -2}) {
                b.ok(Wire.wstat(fid, "", -1, mtime, -1), new byte[0]);
                Bench.due("MTIME", mtime, b.server.file(-1, fid, 3));
            }
            int loose = b.server.count(5);
            b.ok(Wire.wstat(fid, "", fid == 1 ? 0x1ff : 0x800001ff, -1, -1), new byte[0]);
            Bench.due("MTIME", -2, b.server.file(-1, fid, 3));
            b.count(5, loose);
        }
    }

    /** "DATA (cut, or with 0s behind: CHANGED, if the length is another one ..)" */
    private static void lengths() {
        for (int length : new int[] {0, 1, 3, 4, 5, 63, 64, 511, 512}) {
            Bench b = Bench.twoFiles();
            b.ok(Wire.wstat(1, "", -1, -1, length), new byte[0]);
            boolean other = length != 4;
            b.file(-1, 1, 0, other ? 2 : 1, 0x1ff, other ? b.server.count(0) : 5, length, 1);
            b.count(5, other ? 1 : 0);
            // Neither the directory, nor any other, is one that changed.
            b.file(-1, 0, 0, 2, 0x800001ff, 8, 2, 1);
            b.ok(Wire.open(1, 0));
            byte[] due = Arrays.copyOf("data".getBytes(), length);
            b.ok(Wire.read(1, 0, 1000), new Wire().n4(length).raw(due).bytes());
        }
    }

    /** "9: length is not all ones, and it is .. above 512": eight bytes without a sign. */
    private static void lengthsThatAreTooLarge() {
        Bench b = Bench.twoFiles();
        for (long length : new long[] {513, 514, 1024, 65536, 1L << 31, (1L << 32) - 1, 1L << 32, (1L << 32) + 4, Long.MAX_VALUE,
            Long.MIN_VALUE, Long.MIN_VALUE + 4, -513, -512, -4, -2}) {
            b.error(9, Wire.wstat(1, "", -1, -1, length));
            b.error(9, Wire.wstat(1, "new", 0, 0, length));
        }
        b.ok(Wire.wstat(1, "", 0x1ff, -1, -1));
        b.file(-1, 1, 0, 1, 0x1ff, 5, 4, 1);
    }

    /** "9: .. it is a DIRECTORY": any length but all ones, that which it has, too. */
    private static void lengthOfADirectory() {
        Bench b = Bench.twoFiles();
        for (int fid : new int[] {0, 2}) {
            for (long length : new long[] {0, 1, 512, 513, -2, Long.MIN_VALUE}) {
                b.error(9, Wire.wstat(fid, "", -1, -1, length));
            }
            b.ok(Wire.wstat(fid, "", 0x80000000, -1, -1));
        }
    }

    /** "mtime stands, if it is told" */
    private static void lengthAndMtime() {
        Bench b = Bench.twoFiles();
        b.ok(Wire.wstat(1, "", -1, 0, 3));
        b.file(-1, 1, 0, 2, 0x1ff, 0, 3, 1);
        b.ok(Wire.wstat(1, "", -1, -2, 4));
        b.file(-1, 1, 0, 3, 0x1ff, -2, 4, 1);
        // The same length: mtime alone.
        b.ok(Wire.wstat(1, "", -1, 9, 4));
        b.file(-1, 1, 0, 3, 0x1ff, 9, 4, 1);
        b.ok(Wire.wstat(1, "", -1, -1, 5));
        b.file(-1, 1, 0, 4, 0x1ff, b.server.count(0), 5, 1);
        b.count(5, 4);
        // mtime that is TIME, and an MTIME that is as before, come with another VERSION all the same.
        int time = b.server.count(0);
        b.ok(Wire.wstat(1, "", -1, time, 6));
        b.file(-1, 1, 0, 5, 0x1ff, time, 6, 1);
        b.count(5, 5);
    }

    private static void cutAndGrown() {
        Bench b = Bench.twoFiles();
        b.ok(Wire.wstat(1, "", -1, -1, 2));
        b.ok(Wire.wstat(1, "", -1, -1, 6));
        b.ok(Wire.open(1, 0));
        b.ok(Wire.read(1, 0, 1000), new Wire().n4(6).raw("da".getBytes()).n4(0).bytes());
        b.file(-1, 1, 0, 3, 0x1ff, b.server.count(0) - 2, 6, 1);
    }

    /** Each cause is taken away in turn: 2, 4, 3, 5, 6, 7, 8, 9. */
    private static void errorsInOrder() {
        Bench b = Bench.twoFiles();
        b.server.snap();
        b.ok(Wire.attach(3, Wire.NOFID, "", "s0"));
        b.ok(Wire.walk(3, 4, "f"));
        b.make("gone", 0, "");
        b.ok(Wire.walk(0, 5, "gone"));
        b.ok(Wire.walk(0, 6, "gone"));
        b.ok(Wire.remove(6));
        byte[] worst = Wire.statOf(new byte[19], 0, 0, 0, 513, "..", "u", "g", "m");
        b.error(2, Wire.wstat(6, worst));
        b.error(4, Wire.wstat(5, worst));
        b.error(3, Wire.wstat(3, worst));
        b.error(3, Wire.wstat(4, worst));
        b.error(3, Wire.sync(4));
        b.error(5, Wire.wstat(2, worst));
        b.error(6, Wire.wstat(2, "..", 0, 0, 513));
        b.error(7, Wire.wstat(2, "f", 0, 0, 513));
        b.error(8, Wire.wstat(2, "new", 0, 0, 513));
        b.error(9, Wire.wstat(2, "new", 0x80000000, 0, 513));
        b.ok(Wire.wstat(2, "new", 0x80000000, 0, -1));
    }

    /** "126 that changes nothing that it was is none", and no SYNC. */
    private static void nothingThatItWas() {
        Bench b = Bench.twoFiles();
        b.ok(Wire.wstat(2, "", 0x80000001, -1, -1));
        State before = new State(b.server);
        byte[][] same = {Wire.wstat(1, "f", -1, -1, -1), Wire.wstat(1, "", 0x1ff, -1, -1), Wire.wstat(1, "", -1, 5, -1),
            Wire.wstat(1, "", -1, -1, 4), Wire.wstat(1, "f", 0x1ff, 5, 4), Wire.wstat(2, "d", 0x80000001, 8, -1),
            Wire.wstat(0, "", 0x800001ff, 8, -1)};
        for (byte[] message : same) {
            b.ok(message, new byte[0]);
            b.unchanged("wstat of what it was", before, "count(0)", "count(10)", "answer(");
        }
        b.count(5, 1);
    }

    private static void eachPartAloneIsAChange() {
        byte[][] others = {Wire.wstat(1, "g", 0x1ff, 5, 4), Wire.wstat(1, "f", 0x1fe, 5, 4), Wire.wstat(1, "f", 0x1ff, 6, 4),
            Wire.wstat(1, "f", 0x1ff, 5, 5), Wire.wstat(1, "f", 0x1ff, 5, 3), Wire.wstat(1, "ff", 0x1ff, 5, 4),
            Wire.wstat(2, "D", -1, -1, -1), Wire.wstat(0, "", 0x80000000, -1, -1)};
        for (byte[] message : others) {
            Bench b = Bench.twoFiles();
            State before = new State(b.server);
            b.ok(message, new byte[0]);
            b.count(5, 1);
            Bench.due("crash(1)", 1, b.server.crash(1));
            b.unchanged("a change undone", before, "count(0)", "count(3)", "count(8)", "count(10)", "answer(", "fid(");
            b.file(-1, 1, 0, 1, 0x1ff, 5, 4, 1);
        }
    }

    /** "if all is all ones (and empty): SYNC": with any FID of the LIVE TREE, OPEN or not. */
    private static void allOnesIsASync() {
        for (int fid = 0; fid < 4; fid++) {
            Bench b = Bench.twoFiles();
            b.ok(Wire.walk(0, 3));
            b.ok(Wire.create(3, "g", 0, 1));
            b.ok(Wire.write(3, 0, "x"));
            b.count(5, 2);
            State before = new State(b.server);
            b.ok(Wire.sync(fid), new byte[0]);
            b.count(5, 0);
            b.unchanged("SYNC", before, "count(0)", "count(5)", "count(10)", "answer(");
            Bench.due("crash(1)", -1, b.server.crash(1));
            b.ok(Wire.sync(fid), new byte[0]);
            b.count(5, 0);
            Bench.due("crash(0)", 1, b.server.crash(0));
            b.count(1, 4);
        }
    }
}
