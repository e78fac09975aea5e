import java.util.Arrays;
import java.util.function.Consumer;
import java.util.function.Supplier;

/**
 * A refused call changes nothing but what the document says it does: two servers come to one state, one is refused
 * something, the other does what must come to the same, and all that follows has to be alike. So it would show, too, if a
 * refused call changed what only later calls tell: DATA, what a crash undoes, or where a FID goes on in a directory.
 */
final class RefusedTest {
    private static final byte[] FLUSH = Wire.flush(0);

    public static void main(String[] args) {
        noVersion();
        noSuchFid();
        lost();
        attach();
        walk();
        open();
        create();
        readAndWrite();
        remove();
        wstat();
        versionThatIsRefused();
        illBytes();
        callsThatAreNoMessages();
        Bench.end();
    }

    /**
     * Of the LIVE TREE: 1 at f, 2 at d (which is not empty), 3 at f OPEN for both, 4 at the ROOT OPEN, of which 53 bytes are told,
     * 5 LOST, 6 LOST and OPEN, 10 at r (to be read alone), 11 at e (empty), 12 at f OPEN with 64, 13 at f OPEN for writing,
     * 14 at f OPEN for reading. Of SNAPSHOT 0: 7 at its ROOT, 8 at its f, 9 at its ROOT OPEN, of which 53 bytes are told.
     * Three CHANGES are LOOSE.
     */
    private static Bench rich() {
        Bench b = Bench.attached();
        b.make("f", 0x1ff, "some data");
        b.make("d", 0x800001ff, "");
        b.make("r", 0x100, "x");
        b.make("e", 0x800001ff, "");
        b.make("t", 0x800001ff, "");
        b.ok(Wire.walk(0, 2, "d"));
        b.ok(Wire.create(2, "g", 0x1ff, 0));
        b.server.snap();
        b.server.archive(0);
        b.ok(Wire.sync(0));
        b.ok(Wire.clunk(2));
        String[][] places = {{}, {"f"}, {"d"}, {"f"}, {}, {"t"}, {"t"}};
        for (int fid = 1; fid < places.length; fid++) {
            b.ok(Wire.walk(0, fid, places[fid]));
        }
        b.ok(Wire.attach(7, Wire.NOFID, "", "s0"));
        b.ok(Wire.walk(7, 8, "f"));
        b.ok(Wire.walk(7, 9));
        b.ok(Wire.walk(0, 10, "r"));
        b.ok(Wire.walk(0, 11, "e"));
        for (int fid = 12; fid < 15; fid++) {
            b.ok(Wire.walk(0, fid, "f"));
        }
        int[][] fidsAndModes = {{3, 2}, {4, 0}, {6, 0}, {9, 0}, {12, 64}, {13, 1}, {14, 0}};
        for (int[] pair : fidsAndModes) {
            b.ok(Wire.open(pair[0], pair[1]));
        }
        b.ok(Wire.read(4, 0, 60));
        b.ok(Wire.read(9, 0, 60));
        b.ok(Wire.write(3, 4, "-first"));
        b.ok(Wire.walk(0, 15, "t"));
        b.ok(Wire.remove(15));
        b.ok(Wire.wstat(1, "", 0x1fe, 77, -1));
        b.count(5, 3);
        return b;
    }

    private static Bench withoutRoomForFids() {
        Bench b = rich();
        for (int fid = 15; fid < 24; fid++) {
            b.ok(Wire.walk(0, fid));
        }
        b.count(3, 24);
        return b;
    }

    private static Bench withoutPaths() {
        Bench b = rich();
        while (b.server.count(2) < 60) {
            b.make("n" + b.server.count(2), 0x1ff, "");
        }
        b.ok(Wire.sync(0));
        b.ok(Wire.write(3, 0, "Some"));
        return b;
    }

    private static void refused(int error, byte[] message) {
        refused(RefusedTest::rich, error, message);
    }

    private static void refused(Supplier<Bench> made, int error, byte[] message) {
        alike(made, b -> b.error(error, message), b -> b.ok(FLUSH));
    }

    /** Whether both are alike, but for the latest ANSWER and how many ERRORS there were. */
    private static void alike(Supplier<Bench> made, Consumer<Bench> refused, Consumer<Bench> instead) {
        int loose = made.get().server.count(5);
        for (int back = -1; back <= loose; back++) {
            Bench one = made.get();
            Bench other = made.get();
            refused.accept(one);
            instead.accept(other);
            one.unchanged("what was refused", new State(other.server), "answer(", "count(10)", "count(12)");
            if (back < 0) {
                messages(one, other);
            } else {
                crash(one, other, back);
            }
        }
    }

    private static void messages(Bench one, Bench other) {
        for (int fid = 0; fid < 24; fid++) {
            int newfid = 30;
            byte[][] all = {Wire.read(fid, 53, 1000), Wire.read(fid, 0, 1000), Wire.write(fid, 1, "zz"), Wire.stat(fid),
                Wire.walk(fid, newfid), Wire.create(newfid, "made" + fid, 0x1ff, 1), Wire.open(newfid, 0), Wire.read(newfid, 0, 1000),
                Wire.remove(newfid), Wire.clunk(fid)};
            for (byte[] message : all) {
                Bench.due("length", other.send(message), one.send(message));
                Bench.due("answer", 1, Arrays.equals(other.answer(), one.answer()) ? 1 : 0);
            }
        }
        same(one, other);
    }

    private static void crash(Bench one, Bench other, int back) {
        Bench.due("crash", 1, one.server.crash(back));
        Bench.due("crash", 1, other.server.crash(back));
        same(one, other);
    }

    private static void same(Bench one, Bench other) {
        Bench.due("snap", other.server.snap(), one.server.snap());
        int k = one.server.count(4) - 1;
        Bench.due("archive", other.server.archive(k), one.server.archive(k));
        one.unchanged("what was refused", new State(other.server), "answer(", "count(10)", "count(12)");
    }

    private static void noVersion() {
        Supplier<Bench> crashed = () -> {
            Bench b = rich();
            b.server.crash(1);
            return b;
        };
        byte[][] all = {Wire.auth(0, "", ""), Wire.attach(0, Wire.NOFID, "", ""), Wire.walk(0, 1), Wire.open(0, 0),
            Wire.create(0, "x", 0, 0), Wire.read(0, 0, 9), Wire.write(0, 0, "x"), Wire.clunk(0), Wire.remove(0), Wire.stat(0),
            Wire.wstat(0, "", 0x80000000, 0, -1), Wire.sync(0)};
        for (byte[] message : all) {
            alike(crashed, b -> b.error(1, message), b -> b.error(1, FLUSH));
        }
    }

    private static void noSuchFid() {
        byte[][] all = {Wire.walk(77, 99), Wire.walk(77, 77), Wire.walk(77, 1), Wire.open(77, 0), Wire.create(77, "x", 0, 0),
            Wire.read(77, 0, 9), Wire.write(77, 0, "x"), Wire.clunk(77), Wire.remove(77), Wire.stat(77), Wire.sync(77),
            Wire.wstat(77, "x", 0, 0, 0)};
        for (byte[] message : all) {
            refused(2, message);
        }
    }

    private static void lost() {
        for (int fid = 5; fid < 7; fid++) {
            byte[][] all = {Wire.walk(fid, 99), Wire.walk(fid, fid, ".."), Wire.open(fid, 0), Wire.create(fid, "x", 0x1ff, 0),
                Wire.read(fid, 0, 1000), Wire.write(fid, 0, "x"), Wire.stat(fid), Wire.sync(fid), Wire.wstat(fid, "x", -1, 0, -1)};
            for (byte[] message : all) {
                refused(4, message);
            }
        }
    }

    private static void attach() {
        refused(3, Wire.auth(99, "u", ""));
        refused(3, Wire.attach(99, 0, "u", ""));
        refused(3, Wire.attach(99, -2, "u", "s0"));
        refused(5, Wire.attach(1, -1, "u", ""));
        refused(5, Wire.attach(5, -1, "u", "s0"));
        refused(6, Wire.attach(99, -1, "u", "s1"));
        refused(6, Wire.attach(99, -1, "u", "s"));
        refused(RefusedTest::withoutRoomForFids, 7, Wire.attach(99, -1, "u", ""));
        refused(RefusedTest::withoutRoomForFids, 7, Wire.attach(99, -1, "u", "s0"));
    }

    private static void walk() {
        String[] names = new String[17];
        Arrays.fill(names, "..");
        refused(3, Wire.walk(3, 99));
        refused(3, Wire.walk(4, 4, "d"));
        refused(5, Wire.walk(0, 1));
        refused(5, Wire.walk(0, 5, "d"));
        refused(6, Wire.walk(0, 99, names));
        refused(6, Wire.walk(2, 2, names));
        refused(RefusedTest::withoutRoomForFids, 7, Wire.walk(0, 99));
        refused(RefusedTest::withoutRoomForFids, 7, Wire.walk(0, 99, "d", "g"));
        refused(8, Wire.walk(0, 99, "x"));
        refused(8, Wire.walk(2, 2, "f"));
        refused(8, Wire.walk(1, 99, ".."));
        // One that stops on its way is no ERROR, but changes nothing either.
        Bench b = rich();
        State before = new State(b.server);
        b.ok(Wire.walk(0, 99, "d", "g", "x"));
        b.ok(Wire.walk(2, 2, "g", ".."));
        b.unchanged("walk that stops", before, "count(0)", "count(10)", "answer(");
    }

    private static void open() {
        refused(3, Wire.open(3, 0));
        refused(3, Wire.open(13, 17));
        refused(3, Wire.open(4, 0));
        refused(5, Wire.open(1, 3));
        refused(5, Wire.open(1, 19));
        refused(5, Wire.open(1, 48));
        refused(6, Wire.open(2, 64));
        refused(6, Wire.open(8, 16));
        refused(7, Wire.open(10, 16));
        refused(7, Wire.open(10, 18));
    }

    private static void create() {
        refused(3, Wire.create(4, "x", 0x1ff, 0));
        refused(5, Wire.create(1, "x", 0x1ff, 0));
        refused(5, Wire.create(7, "x", 0x1ff, 0));
        refused(6, Wire.create(0, "", 0x1ff, 0));
        refused(6, Wire.create(2, "..", 0x1ff, 0));
        refused(7, Wire.create(0, "f", 0x1ff, 16));
        refused(7, Wire.create(2, "g", 0x1ff, 0));
        refused(8, Wire.create(0, "x", 0x1ff, 3));
        refused(8, Wire.create(0, "x", 0x800001ff, 1));
        refused(RefusedTest::withoutPaths, 9, Wire.create(0, "x", 0x1ff, 0));
        refused(RefusedTest::withoutPaths, 9, Wire.create(2, "x", 0x800001ff, 0));
    }

    private static void readAndWrite() {
        refused(3, Wire.read(1, 0, 9));
        refused(3, Wire.read(13, 0, 9));
        refused(3, Wire.read(7, 0, 1000));
        refused(5, Wire.read(4, 52, 1000));
        refused(5, Wire.read(4, 54, 1000));
        refused(5, Wire.read(9, -1, 1000));
        refused(3, Wire.write(1, 0, "x"));
        refused(3, Wire.write(14, 0, "x"));
        refused(3, Wire.write(12, 0, "x"));
        refused(5, Wire.write(3, 512, "x"));
        refused(5, Wire.write(3, 0, new byte[513]));
        refused(5, Wire.write(13, -1, "xyz"));
    }

    /** "An ERROR changes nothing (but TIME, and as told at 122)": there the FID is gone, as with 120. */
    private static void remove() {
        int[][] fidsAndErrors = {{0, 3}, {2, 5}, {4, 3}, {5, 4}, {6, 4}, {7, 3}, {8, 3}, {9, 3}};
        for (int[] pair : fidsAndErrors) {
            alike(RefusedTest::rich, b -> b.error(pair[1], Wire.remove(pair[0])), b -> b.ok(Wire.clunk(pair[0])));
        }
    }

    private static void wstat() {
        refused(3, Wire.wstat(7, "", 0x80000000, -1, -1));
        refused(3, Wire.sync(8));
        refused(5, Wire.wstat(1, Wire.statOf(new byte[19], 0, -1, 0, 0, "x", "", "", "")));
        refused(5, Wire.wstat(1, Wire.statOf(Wire.ones(19), -1, -1, -1, -1, "", "", "", "m")));
        refused(6, Wire.wstat(0, "x", 0x80000000, 0, -1));
        refused(6, Wire.wstat(1, ".", 0, 0, 0));
        refused(7, Wire.wstat(1, "d", 0, 0, 0));
        refused(8, Wire.wstat(1, "x", 0x200, 0, 0));
        refused(8, Wire.wstat(1, "x", 0x80000000, 0, 0));
        refused(8, Wire.wstat(2, "x", 0, 0, -1));
        refused(9, Wire.wstat(1, "x", 0, 0, 513));
        refused(9, Wire.wstat(2, "x", 0x80000000, 0, 0));
    }

    /** "all FIDS are gone .. (there is no version then)": as behind one that is unknown. */
    private static void versionThatIsRefused() {
        for (int msize : new int[] {0, 63}) {
            alike(RefusedTest::rich, b -> b.error(3, Wire.version(msize, "9P2000")), b -> b.ok(Wire.version(64, "no")));
        }
    }

    /** "-1 ILL (nothing else changes)": as behind no bytes at all. */
    private static void illBytes() {
        byte[][] all = {Wire.sync(0), Wire.clunk(12), Wire.remove(1), Wire.write(3, 0, "x"), Wire.wstat(1, "x", 0, 0, 0),
            Wire.create(0, "x", 0, 0), Wire.open(1, 16), Wire.version(1000, "9P2000"), Wire.walk(2, 2, ".."), Wire.read(4, 0, 1000)};
        for (byte[] message : all) {
            byte[] longer = Arrays.copyOf(message, message.length + 1);
            longer[0]++;
            alike(RefusedTest::rich, b -> b.ill(longer), b -> b.ill(new byte[0]));
            byte[] shorter = Arrays.copyOf(message, message.length - 1);
            shorter[0]--;
            alike(RefusedTest::rich, b -> b.ill(shorter), b -> b.ill(new byte[0]));
        }
    }

    private static void callsThatAreNoMessages() {
        Supplier<Bench> full = () -> {
            Bench b = rich();
            for (int k = 1; k < 5; k++) {
                b.server.snap();
            }
            b.feed(Arrays.copyOf(Wire.clunk(12), 1400));
            return b;
        };
        Consumer<Bench> nothing = b -> { };
        alike(full, b -> Bench.due("feed", -1, b.server.feed(1, 2, 3, 4, 5)), nothing);
        alike(full, b -> Bench.due("bend", -1, b.server.bend(-1, 5)), nothing);
        alike(full, b -> Bench.due("bend", -1, b.server.bend(1400, 5)), nothing);
        alike(full, b -> Bench.due("message", -2, b.server.message(1401)), nothing);
        alike(full, b -> Bench.due("message", -2, b.server.message(-1)), nothing);
        alike(full, b -> Bench.due("archive", -1, b.server.archive(5)), nothing);
        alike(full, b -> Bench.due("archive", -1, b.server.archive(-1)), nothing);
        alike(full, b -> Bench.due("score", -1, b.server.score(5, 0)), nothing);
        alike(full, b -> Bench.due("score", -1, b.server.score(0, 20)), nothing);
        alike(full, b -> Bench.due("crash", -1, b.server.crash(4)), nothing);
        alike(full, b -> Bench.due("crash", -1, b.server.crash(-1)), nothing);
        alike(full, b -> Bench.due("file", -9, b.server.file(5, 0, 0)), nothing);
        alike(full, b -> Bench.due("fid", -9, b.server.fid(99, 0)), nothing);
        alike(full, b -> Bench.due("count", -9, b.server.count(13)), nothing);
        Supplier<Bench> sixth = () -> {
            Bench b = full.get();
            b.server.snap();
            return b;
        };
        alike(sixth, b -> Bench.due("snap", -1, b.server.snap()), nothing);
    }
}
