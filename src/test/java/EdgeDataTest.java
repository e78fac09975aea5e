import java.util.Arrays;

/** The boundary cases of 116 and 118: MSIZE, offsets, counts, and the 512 bytes of DATA. */
final class EdgeDataTest {
    private static final long[] FAR = {1L << 31, 1L << 32, (1L << 32) + 1, (1L << 32) - 1, Long.MAX_VALUE, Long.MIN_VALUE,
        Long.MIN_VALUE + 1, -513, -512, -511, -2, -1};
    private static final byte[] DATA = new byte[512];

    static {
        for (int i = 0; i < DATA.length; i++) {
            DATA[i] = (byte) (i * 7 + i / 64);
        }
    }

    public static void main(String[] args) {
        openForReading();
        openForWriting();
        countIsCutToMsize();
        countBelowTheCut();
        offsetsToReadFrom();
        readOfNoData();
        statsThatHaveRoom();
        roomForOneStat();
        noneIsPassedOver();
        oneStatByMsize();
        directoryOffsets();
        offsetNoughtStartsAgain();
        emptyDirectory();
        refusedReadsTellNothing();
        directoryErrorsInOrder();
        whatIsToldLast();
        writeUpTo512();
        writeFarAway();
        writeOfNothing();
        noughtsBetween();
        writeInTheMiddle();
        writeErrorsInOrder();
        Bench.end();
    }

    /** Fid 1 at a file with that much of DATA, OPEN for both; fid 0 at the root. */
    private static Bench withData(int length, int msize) {
        Bench b = Bench.attached(msize);
        b.ok(Wire.walk(0, 1));
        b.ok(Wire.create(1, "f", 0x1ff, 2));
        if (length > 0) {
            b.ok(Wire.write(1, 0, Arrays.copyOf(DATA, length)));
        }
        return b;
    }

    private static byte[] part(int from, int to) {
        return new Wire().n4(to - from).raw(Arrays.copyOfRange(DATA, from, to)).bytes();
    }

    private static byte[] counted(byte[]... stats) {
        Wire all = new Wire();
        for (byte[] stat : stats) {
            all.raw(stat);
        }
        return new Wire().n4(all.bytes().length).raw(all.bytes()).bytes();
    }

    /** "116: 3: not OPEN for reading" */
    private static void openForReading() {
        for (int mode : new int[] {-1, 0, 1, 2, 16, 17, 18, 64, 65, 66}) {
            Bench b = withData(3, 1000);
            b.ok(Wire.walk(0, 2, "f"));
            if (mode >= 0) {
                b.ok(Wire.open(2, mode));
            }
            if (mode == -1 || (mode & 3) == 1) {
                b.error(3, Wire.read(2, 0, 10));
                b.error(3, Wire.read(2, -1, 0));
            } else {
                b.ok(Wire.read(2, 0, 10), (mode & 16) != 0 ? new byte[4] : part(0, 3));
            }
        }
        Bench b = Bench.attached();
        b.error(3, Wire.read(0, 0, 10));
        b.ok(Wire.open(0, 0));
        b.ok(Wire.read(0, 0, 10), new byte[4]);
    }

    /** "118: 3: not OPEN for writing" */
    private static void openForWriting() {
        for (int mode : new int[] {-1, 0, 1, 2, 17, 18, 64, 65, 66}) {
            Bench b = withData(3, 1000);
            b.ok(Wire.walk(0, 2, "f"));
            if (mode >= 0) {
                b.ok(Wire.open(2, mode));
            }
            if (mode == -1 || (mode & 3) == 0) {
                b.error(3, Wire.write(2, 0, "x"));
                b.error(3, Wire.write(2, 513, ""));
            } else {
                b.ok(Wire.write(2, 0, "x"), new Wire().n4(1).bytes());
            }
        }
        Bench b = Bench.attached();
        b.error(3, Wire.write(0, 0, ""));
        b.ok(Wire.open(0, 0));
        b.error(3, Wire.write(0, 0, ""));
    }

    /** "count is cut to MSIZE less 11": 523 is the least that lets all of 512 bytes go at once. */
    private static void countIsCutToMsize() {
        for (int msize : new int[] {64, 65, 100, 521, 522, 523, 524, 999, 1000, 1001}) {
            Bench b = withData(512, msize);
            int cut = Math.min(msize, 1000) - 11;
            for (int count : new int[] {cut - 1, cut, cut + 1, cut + 2, 512, 513, Integer.MAX_VALUE, Integer.MIN_VALUE, -2, -1}) {
                long asked = count & 0xffffffffL;
                int due = (int) Math.min(512, Math.min(asked, cut));
                b.ok(Wire.read(1, 0, count), part(0, due));
                b.count(10, 11 + due);
            }
        }
    }

    /** "count bytes at most" */
    private static void countBelowTheCut() {
        Bench b = withData(512, 64);
        for (int count : new int[] {0, 1, 2, 51, 52, 53, 54}) {
            b.ok(Wire.read(1, 100, count), part(100, 100 + Math.min(count, 53)));
        }
        b = withData(10, 1000);
        for (int count = 0; count < 13; count++) {
            b.ok(Wire.read(1, 0, count), part(0, Math.min(count, 10)));
        }
    }

    /** "what DATA has from offset on" */
    private static void offsetsToReadFrom() {
        for (int length : new int[] {1, 2, 511, 512}) {
            Bench b = withData(length, 1000);
            for (int offset = Math.max(0, length - 2); offset < length + 3; offset++) {
                b.ok(Wire.read(1, offset, 1000), part(Math.min(offset, length), length));
                b.ok(Wire.read(1, offset, 1), part(Math.min(offset, length), Math.min(offset + 1, length)));
                b.ok(Wire.read(1, offset, 0), new byte[4]);
            }
            for (long offset : FAR) {
                b.ok(Wire.read(1, offset, 1000), new byte[4]);
                b.ok(Wire.read(1, offset, -1), new byte[4]);
            }
        }
    }

    private static void readOfNoData() {
        Bench b = withData(0, 1000);
        for (long offset : new long[] {0, 1, 512, 513, -1}) {
            b.ok(Wire.read(1, offset, 1000), new byte[4]);
        }
    }

    /** Three files with STATS of 53, 54 and 72 bytes, and fid 0 OPEN at the root. */
    private static Bench threeFiles(int msize) {
        Bench b = Bench.attached(msize);
        b.make("a", 0, "");
        b.make("bb", 0, "");
        b.make("twenty-bytes-long-na", 0, "");
        b.ok(Wire.open(0, 0));
        return b;
    }

    private static final byte[] FIRST = Wire.statOfFile(1, 0, 0, 4, 0, "a");
    private static final byte[] SECOND = Wire.statOfFile(2, 0, 0, 7, 0, "bb");
    private static final byte[] THIRD = Wire.statOfFile(3, 0, 0, 10, 0, "twenty-bytes-long-na");

    /** "as many as there is room for, whole ones" */
    private static void statsThatHaveRoom() {
        byte[][] due = {counted(), counted(FIRST), counted(FIRST, SECOND), counted(FIRST, SECOND, THIRD)};
        int[] sizes = {0, 53, 53 + 54, 53 + 54 + 72};
        Bench b = threeFiles(1000);
        for (int many = 0; many <= 3; many++) {
            if (many > 0) {
                b.ok(Wire.read(0, 0, sizes[many] - 1), due[many - 1]);
            }
            b.ok(Wire.read(0, 0, sizes[many]), due[many]);
            b.ok(Wire.read(0, 0, sizes[many] + 1), due[many]);
        }
        b.ok(Wire.read(0, 0, -1), due[3]);
        b.ok(Wire.read(0, 0, Integer.MIN_VALUE), due[3]);
    }

    /** A STAT for which there is no room stays for the next read. */
    private static void roomForOneStat() {
        Bench b = threeFiles(1000);
        b.ok(Wire.read(0, 0, 52), new byte[4]);
        b.ok(Wire.read(0, 0, 53), counted(FIRST));
        b.ok(Wire.read(0, 53, 53), new byte[4]);
        b.ok(Wire.read(0, 53, 54), counted(SECOND));
        b.ok(Wire.read(0, 107, 71), new byte[4]);
        b.ok(Wire.read(0, 107, 72), counted(THIRD));
        b.ok(Wire.read(0, 179, 1000), new byte[4]);
        b.ok(Wire.read(0, 179, 0), new byte[4]);
        b.ok(Wire.read(0, 0, 1000), counted(FIRST, SECOND, THIRD));
    }

    /** "by PATHS": one without room is not passed over, though there is room for the one behind it. */
    private static void noneIsPassedOver() {
        Bench b = Bench.attached();
        b.make("twenty-bytes-long-na", 0, "");
        b.make("b", 0, "");
        byte[] large = Wire.statOfFile(1, 0, 0, 4, 0, "twenty-bytes-long-na");
        byte[] small = Wire.statOfFile(2, 0, 0, 7, 0, "b");
        b.ok(Wire.open(0, 0));
        b.ok(Wire.read(0, 0, 53), new byte[4]);
        b.ok(Wire.read(0, 0, 71), new byte[4]);
        b.ok(Wire.read(0, 0, 72), counted(large));
        b.ok(Wire.read(0, 72, 53), counted(small));
        b.ok(Wire.read(0, 0, 72 + 53), counted(large, small));
    }

    /** MSIZE cuts the room for STATS, too. */
    private static void oneStatByMsize() {
        Bench b = threeFiles(64);
        b.ok(Wire.read(0, 0, 1000), counted(FIRST));
        b.ok(Wire.read(0, 53, 1000), new byte[4]);
        b = threeFiles(65);
        b.ok(Wire.read(0, 0, 1000), counted(FIRST));
        b.ok(Wire.read(0, 53, 1000), counted(SECOND));
        b.ok(Wire.read(0, 107, -1), new byte[4]);
        b = threeFiles(11 + 53 + 54);
        b.ok(Wire.read(0, 0, 1000), counted(FIRST, SECOND));
        b = threeFiles(11 + 53 + 54 - 1);
        b.ok(Wire.read(0, 0, 1000), counted(FIRST));
        b = threeFiles(11 + 72 - 1);
        b.ok(Wire.read(0, 0, 53), counted(FIRST));
        b.ok(Wire.read(0, 53, 54), counted(SECOND));
        b.ok(Wire.read(0, 107, 1000), new byte[4]);
        b = threeFiles(11 + 72);
        b.ok(Wire.read(0, 0, 53), counted(FIRST));
        b.ok(Wire.read(0, 53, 54), counted(SECOND));
        b.ok(Wire.read(0, 107, 1000), counted(THIRD));
    }

    /** "5: offset is neither 0 nor how many bytes were told of it by this FID since it was OPEN" */
    private static void directoryOffsets() {
        Bench b = threeFiles(1000);
        b.error(5, Wire.read(0, 1, 1000));
        b.error(5, Wire.read(0, 53, 1000));
        b.ok(Wire.read(0, 0, 53));
        refusesOffsetsBut(b, 53);
        b.ok(Wire.read(0, 53, 54));
        refusesOffsetsBut(b, 107);
        b.ok(Wire.read(0, 107, 72));
        refusesOffsetsBut(b, 179);
        b.ok(Wire.read(0, 179, 72), new byte[4]);
        refusesOffsetsBut(b, 179);
        // What another FID was told does not count for this one.
        b.ok(Wire.attach(1, Wire.NOFID, "", ""));
        b.ok(Wire.open(1, 0));
        b.error(5, Wire.read(1, 179, 1000));
        b.error(5, Wire.read(1, 53, 1000));
        b.ok(Wire.read(1, 0, 1000), counted(FIRST, SECOND, THIRD));
    }

    private static void refusesOffsetsBut(Bench b, int told) {
        for (int offset : new int[] {1, 52, 53, 54, 106, 107, 108, 178, 179, 180}) {
            if (offset != told) {
                b.error(5, Wire.read(0, offset, 1000));
            }
        }
        for (long far : FAR) {
            b.error(5, Wire.read(0, far, 1000));
        }
        b.error(5, Wire.read(0, told + (1L << 32), 1000));
        b.error(5, Wire.read(0, -told, 1000));
    }

    /** "or since offset was 0" */
    private static void offsetNoughtStartsAgain() {
        Bench b = threeFiles(1000);
        b.ok(Wire.read(0, 0, 1000));
        b.ok(Wire.read(0, 0, 53), counted(FIRST));
        b.error(5, Wire.read(0, 179, 1000));
        b.error(5, Wire.read(0, 179 + 53, 1000));
        b.ok(Wire.read(0, 53, 1000), counted(SECOND, THIRD));
        b.ok(Wire.read(0, 0, 0), new byte[4]);
        b.error(5, Wire.read(0, 179, 1000));
        b.ok(Wire.read(0, 0, 1000), counted(FIRST, SECOND, THIRD));
    }

    private static void emptyDirectory() {
        Bench b = Bench.attached();
        b.ok(Wire.open(0, 0));
        b.ok(Wire.read(0, 0, 1000), new byte[4]);
        b.ok(Wire.read(0, 0, 0), new byte[4]);
        b.error(5, Wire.read(0, 1, 1000));
        b.error(5, Wire.read(0, -1, 1000));
    }

    /** An ERROR leaves where the next read goes on. */
    private static void refusedReadsTellNothing() {
        Bench b = threeFiles(1000);
        b.ok(Wire.read(0, 0, 53));
        b.error(5, Wire.read(0, 107, 1000));
        b.error(5, Wire.read(0, 52, 1000));
        b.ill(Arrays.copyOf(Wire.read(0, 0, 1000), 22));
        b.ok(Wire.read(0, 53, 1000), counted(SECOND, THIRD));
        b.error(5, Wire.read(0, 53, 1000));
        b.ok(Wire.read(0, 179, 1000), new byte[4]);
    }

    private static void directoryErrorsInOrder() {
        Bench b = Bench.attached();
        b.make("d", 0x800001ff, "");
        b.ok(Wire.walk(0, 1, "d"));
        b.ok(Wire.open(1, 0));
        b.ok(Wire.walk(0, 2, "d"));
        b.error(2, Wire.read(9, 1, 0));
        b.error(3, Wire.read(2, 1, 0));
        b.error(5, Wire.read(1, 1, 0));
        b.ok(Wire.read(1, 0, 0));
        b.ok(Wire.remove(2));
        b.error(4, Wire.read(1, 1, 0));
    }

    /** "behind the one told last": also when that one is gone, and when others came since. */
    private static void whatIsToldLast() {
        Bench b = Bench.attached();
        b.make("a", 0, "");
        b.make("bb", 0, "");
        b.make("c", 0, "");
        b.ok(Wire.attach(1, Wire.NOFID, "", ""));
        b.ok(Wire.open(1, 0));
        b.ok(Wire.read(1, 0, 110), counted(FIRST, SECOND));
        for (String gone : new String[] {"bb", "c"}) {
            b.ok(Wire.walk(0, 2, gone));
            b.ok(Wire.remove(2));
        }
        b.ok(Wire.read(1, 107, 1000), new byte[4]);
        b.make("d", 0, "");
        byte[] fourth = Wire.statOfFile(4, 0, 0, b.server.count(0) - 1, 0, "d");
        b.ok(Wire.read(1, 107, 52), new byte[4]);
        b.ok(Wire.read(1, 107, 53), counted(fourth));
        b.ok(Wire.read(1, 160, 53), new byte[4]);
        b.ok(Wire.read(1, 0, 1000), counted(FIRST, fourth));
        // A snapshot's directory tells what it was then.
        b.server.snap();
        b.ok(Wire.walk(0, 2, "a"));
        b.ok(Wire.remove(2));
        b.ok(Wire.attach(3, Wire.NOFID, "", "s0"));
        b.ok(Wire.open(3, 0));
        b.ok(Wire.read(3, 0, 1000), counted(FIRST, fourth));
        b.ok(Wire.read(1, 0, 1000), counted(fourth));
    }

    /** "5: offset and count are above 512 together" */
    private static void writeUpTo512() {
        for (int offset : new int[] {0, 1, 2, 255, 256, 510, 511, 512}) {
            Bench b = withData(0, 1000);
            int room = 512 - offset;
            b.error(5, Wire.write(1, offset, new byte[room + 1]));
            b.error(5, Wire.write(1, offset, new byte[room + 2]));
            b.error(5, Wire.write(1, offset + 1, new byte[room]));
            b.file(-1, 1, 0, 0, 0x1ff, 4, 0, 1);
            b.ok(Wire.write(1, offset, Arrays.copyOf(DATA, room)), new Wire().n4(room).bytes());
            Bench.due("bytes", room > 0 ? 512 : 0, b.server.file(-1, 1, 4));
            if (room > 0) {
                b.ok(Wire.write(1, offset, Arrays.copyOf(DATA, room - 1)), new Wire().n4(room - 1).bytes());
                Bench.due("bytes", 512, b.server.file(-1, 1, 4));
                b.ok(Wire.read(1, offset, 512), part(0, room));
            }
        }
        Bench b = withData(512, 1000);
        b.error(5, Wire.write(1, 0, new byte[513]));
        b.error(5, Wire.write(1, 0, new byte[1377]));
        b.ok(Wire.read(1, 0, 1000), part(0, 512));
        b.ok(Wire.write(1, 0, new byte[512]), new Wire().n4(512).bytes());
    }

    /** Eight bytes of offset, and count, have no sign: together they may wrap around, and are above 512 all the same. */
    private static void writeFarAway() {
        Bench b = withData(5, 1000);
        for (long offset : FAR) {
            for (int count : new int[] {0, 1, 2, 3, 511, 512, 513}) {
                b.error(5, Wire.write(1, offset, new byte[count]));
            }
        }
        b.error(5, Wire.write(1, 513, ""));
        b.error(5, Wire.write(1, 514, ""));
        b.ok(Wire.write(1, 512, ""), new byte[4]);
        b.ok(Wire.read(1, 0, 1000), part(0, 5));
    }

    /** "CHANGED, if count is above 0" */
    private static void writeOfNothing() {
        for (int length : new int[] {0, 3, 512}) {
            Bench b = withData(length, 1000);
            State before = new State(b.server);
            for (int offset : new int[] {0, 1, 3, 4, 511, 512}) {
                b.ok(Wire.write(1, offset, ""), new byte[4]);
                b.unchanged("write of nothing", before, "count(0)", "count(10)", "answer(");
            }
            b.ok(Wire.read(1, 0, 1000), part(0, length));
            // One byte, though it was that byte, changes it.
            int version = b.server.file(-1, 1, 1);
            int loose = b.server.count(5);
            b.ok(Wire.write(1, 0, Arrays.copyOf(DATA, 1)));
            b.file(-1, 1, 0, version + 1, 0x1ff, b.server.count(0), Math.max(1, length), 1);
            b.count(5, loose + 1);
        }
    }

    /** "0s between, if it was shorter" */
    private static void noughtsBetween() {
        for (int offset = 0; offset < 8; offset++) {
            Bench b = withData(4, 1000);
            b.ok(Wire.write(1, offset, "xy"));
            byte[] due = Arrays.copyOf(Arrays.copyOf(DATA, 4), Math.max(4, offset + 2));
            due[offset] = 'x';
            due[offset + 1] = 'y';
            b.ok(Wire.read(1, 0, 1000), counted(due));
            b.file(-1, 1, 0, 2, 0x1ff, b.server.count(0) - 1, due.length, 1);
        }
        // What was cut off does not come back.
        Bench b = withData(512, 1000);
        b.ok(Wire.wstat(1, "", -1, -1, 1));
        b.ok(Wire.write(1, 511, "z"));
        byte[] due = new byte[512];
        due[0] = DATA[0];
        due[511] = 'z';
        b.ok(Wire.read(1, 0, 1000), counted(due));
    }

    private static void writeInTheMiddle() {
        Bench b = withData(512, 1000);
        byte[] due = DATA.clone();
        for (int at : new int[] {0, 1, 63, 64, 65, 510, 511}) {
            due[at] = (byte) ~due[at];
            b.ok(Wire.write(1, at, new byte[] {due[at]}), new Wire().n4(1).bytes());
            b.ok(Wire.read(1, 0, 1000), counted(due));
        }
        Bench.due("bytes", 512, b.server.file(-1, 1, 4));
    }

    private static void writeErrorsInOrder() {
        Bench b = withData(0, 1000);
        b.ok(Wire.walk(0, 2, "f"));
        b.error(2, Wire.write(9, 513, "x"));
        b.error(3, Wire.write(2, 513, "x"));
        b.error(5, Wire.write(1, 513, "x"));
        b.ok(Wire.remove(2));
        b.error(4, Wire.write(1, 513, "x"));
    }
}
