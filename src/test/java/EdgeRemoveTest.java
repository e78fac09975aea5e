/** The boundary cases of 120, 122 and 124. */
final class EdgeRemoveTest {
    public static void main(String[] args) {
        clunkOfNone();
        onlyAnOpenFidRemoves();
        everyModeWith64();
        clunkOfTheLost();
        removeTheRoot();
        removeOfASnapshot();
        directoriesThatAreNotEmpty();
        removeErrorsInOrder();
        removeChangesTheDirectory();
        statOfTheSmallest();
        statOfTheLargest();
        statOfADirectory();
        Bench.end();
    }

    private static void clunkOfNone() {
        Bench b = Bench.attached();
        b.error(2, Wire.clunk(1));
        b.ok(Wire.clunk(0), new byte[0]);
        b.error(2, Wire.clunk(0));
        b.count(3, 0);
    }

    /** "if it was OPEN with 64 its FILE goes, too" */
    private static void onlyAnOpenFidRemoves() {
        Bench b = Bench.attached();
        b.make("f", 0x1ff, "x");
        b.ok(Wire.walk(0, 1, "f"));
        b.ok(Wire.walk(0, 2, "f"));
        b.ok(Wire.open(2, 64));
        State before = new State(b.server);
        b.ok(Wire.clunk(1), new byte[0]);
        b.unchanged("clunk", before, "count(0)", "count(3)", "count(10)", "answer(", "fid(1,");
        b.ok(Wire.clunk(2), new byte[0]);
        b.noFile(-1, 1);
        b.file(-1, 0, 0, 2, 0x800001ff, b.server.count(0), 0, 1);
        b.count(1, 1);
        b.count(2, 2);
        b.count(12, 0);
    }

    private static void everyModeWith64() {
        for (int mode : new int[] {0, 1, 2, 16, 17, 18, 64, 65, 66, 80, 81, 82}) {
            for (int made = 0; made < 2; made++) {
                Bench b = Bench.attached();
                if (made == 0) {
                    b.make("f", 0x1ff, "");
                    b.ok(Wire.walk(0, 1, "f"));
                    b.ok(Wire.open(1, mode));
                } else {
                    b.ok(Wire.walk(0, 1));
                    b.ok(Wire.create(1, "f", 0, mode));
                }
                int loose = b.server.count(5);
                b.ok(Wire.clunk(1), new byte[0]);
                b.noFid(1);
                b.count(1, mode < 64 ? 2 : 1);
                b.count(5, mode < 64 ? loose : loose + 1);
            }
        }
    }

    /** "if 122 lets it": of a LOST one no FILE goes, and it is no ERROR. */
    private static void clunkOfTheLost() {
        Bench b = Bench.attached();
        b.make("f", 0x1ff, "");
        b.ok(Wire.walk(0, 1, "f"));
        b.ok(Wire.walk(0, 2, "f"));
        b.ok(Wire.open(1, 64));
        b.ok(Wire.open(2, 64));
        b.ok(Wire.clunk(1));
        b.make("f", 0x1ff, "");
        b.fid(2, -1, 1, 1, 64, 1);
        State before = new State(b.server);
        b.ok(Wire.clunk(2), new byte[0]);
        b.unchanged("clunk of a LOST one", before, "count(0)", "count(3)", "count(10)", "answer(", "fid(2,");
    }

    /** "3: the ROOT" */
    private static void removeTheRoot() {
        Bench b = Bench.attached();
        b.error(3, Wire.remove(0));
        b.noFid(0);
        b.file(-1, 0, 0, 0, 0x800001ff, 0, 0, 1);
        b.ok(Wire.attach(0, Wire.NOFID, "", ""));
        b.make("f", 0x1ff, "");
        // Not empty, too: 3 is the first that fits.
        b.error(3, Wire.remove(0));
    }

    /** "or of a SNAPSHOT" */
    private static void removeOfASnapshot() {
        Bench b = Bench.attached();
        b.make("f", 0x1ff, "");
        b.make("d", 0x800001ff, "");
        b.server.snap();
        for (String[] names : new String[][] {{}, {"f"}, {"d"}}) {
            b.ok(Wire.attach(1, Wire.NOFID, "", "s0"));
            b.ok(Wire.walk(1, 1, names));
            b.error(3, Wire.remove(1));
            b.noFid(1);
        }
        b.count(1, 3);
    }

    /** "5: a DIRECTORY that is not empty": with 0, 1 and 2 FILES in it. */
    private static void directoriesThatAreNotEmpty() {
        Bench b = Bench.attached();
        b.make("d", 0x800001ff, "");
        String[] names = {"one", "two"};
        for (String name : names) {
            b.ok(Wire.walk(0, 1, "d"));
            b.ok(Wire.create(1, name, name.equals("one") ? 0x80000000 : 0, 0));
            b.ok(Wire.clunk(1));
        }
        for (int many = 2; many > 0; many--) {
            Bench.due("FILES in it", many, b.server.file(-1, 1, 4));
            b.ok(Wire.walk(0, 1, "d"));
            b.error(5, Wire.remove(1));
            b.noFid(1);
            b.ok(Wire.walk(0, 1, "d", names[2 - many]));
            b.ok(Wire.remove(1), new byte[0]);
        }
        Bench.due("FILES in it", 0, b.server.file(-1, 1, 4));
        b.ok(Wire.walk(0, 1, "d"));
        b.ok(Wire.remove(1), new byte[0]);
        b.count(1, 1);
    }

    /** "the FID is gone, also with an ERROR: 4; 3: ..; 5: .." */
    private static void removeErrorsInOrder() {
        Bench b = Bench.attached();
        b.make("gone", 0x800001ff, "");
        b.ok(Wire.walk(0, 1, "gone"));
        b.ok(Wire.walk(0, 2, "gone"));
        b.ok(Wire.remove(1));
        b.error(2, Wire.remove(1));
        b.count(3, 2);
        b.error(4, Wire.remove(2));
        b.count(3, 1);
        b.noFid(2);
        b.error(2, Wire.remove(2));
        b.count(3, 1);
        b.error(3, Wire.remove(0));
        b.count(3, 0);
    }

    /** "Its FILE is no more, the DIRECTORY is CHANGED": that one alone, and by one. */
    private static void removeChangesTheDirectory() {
        Bench b = Bench.attached();
        b.make("d", 0x800001ff, "");
        b.ok(Wire.walk(0, 1, "d"));
        b.ok(Wire.create(1, "f", 0x1ff, 0));
        b.file(-1, 1, 0, 1, 0x800001ff, b.server.count(0), 1, 1);
        State before = new State(b.server);
        b.ok(Wire.remove(1), new byte[0]);
        b.file(-1, 1, 0, 2, 0x800001ff, b.server.count(0), 0, 1);
        b.noFile(-1, 2);
        b.unchanged("remove", before, "count(0)", "count(1)", "count(3)", "count(5)", "count(10)", "answer(", "fid(1,",
                "file(-1, 1,", "file(-1, 2,");
    }

    private static void statIs(Bench b, int fid, byte[] stat) {
        b.ok(Wire.stat(fid), new Wire().n2(stat.length).raw(stat).bytes());
    }

    /** "124: n[2] STAT, n being how many bytes that has": NAME of one byte, no DATA, and MODE 0. */
    private static void statOfTheSmallest() {
        Bench b = Bench.attached();
        b.ok(Wire.create(0, "\u00ff", 0, 0));
        statIs(b, 0, Wire.statOfFile(1, 0, 0, 3, 0, "\u00ff"));
        b.count(10, 7 + 2 + 53);
    }

    /** NAME of twenty bytes, 512 bytes of DATA, the largest MTIME; also where MSIZE is below the ANSWER. */
    private static void statOfTheLargest() {
        for (int msize : new int[] {64, 1000}) {
            Bench b = Bench.attached(msize);
            String twenty = "twenty-bytes-long-na";
            b.ok(Wire.create(0, twenty, 0x1ff, 1));
            b.ok(Wire.write(0, 0, new byte[512]));
            b.ok(Wire.wstat(0, "", -1, -2, -1));
            statIs(b, 0, Wire.statOfFile(1, 1, 0x1ff, -2, 512, twenty));
            b.count(10, 7 + 2 + 72);
        }
    }

    /** "length of its DATA (0 of a DIRECTORY)", though there are FILES in it. */
    private static void statOfADirectory() {
        Bench b = Bench.attached();
        statIs(b, 0, Wire.statOfFile(0, 0, 0x800001ff, 0, 0, "/"));
        b.make("f", 0x1ff, "data");
        statIs(b, 0, Wire.statOfFile(0, 1, 0x800001ff, 5, 0, "/"));
        b.server.snap();
        b.make("g", 0x1ff, "data");
        b.ok(Wire.attach(1, Wire.NOFID, "", "s0"));
        statIs(b, 1, Wire.statOfFile(0, 1, 0x800001ff, 5, 0, "/"));
    }
}
