import java.util.Arrays;
import java.util.List;

/** Promise 4: which bytes are just a MESSAGE, and which are ILL. */
final class EdgeMessageTest {
    private static final byte[] NOTHING = Wire.ones(19);

    public static void main(String[] args) {
        emptyTextsAreTexts();
        everyByteCounts();
        lengthIsThatOfTheBytes();
        bytesBehindItAreNoPart();
        otherTypes();
        tags();
        textsThatAreTooLongOrShort();
        howManyNames();
        howManyBytesToWrite();
        statOfWstat();
        illBeforeAnyError();
        Bench.end();
    }

    private static List<byte[]> right() {
        return List.of(Wire.version(1000, ""), Wire.version(1000, "9P2000"), Wire.auth(0, "", ""), Wire.auth(0, "u", "a"),
                Wire.attach(1, Wire.NOFID, "", ""), Wire.attach(1, Wire.NOFID, "u", "s0"), Wire.flush(0), Wire.walk(0, 1),
                Wire.walk(0, 1, ""), Wire.walk(0, 1, "a", "", "bc"), Wire.open(0, 0), Wire.create(0, "", 0, 0),
                Wire.create(0, "name", 0, 0), Wire.read(0, 0, 0), Wire.write(0, 0, ""), Wire.write(0, 0, "data"),
                Wire.clunk(7), Wire.remove(7), Wire.stat(0), Wire.sync(0), Wire.wstat(0, "name", -1, -1, -1),
                Wire.wstat(0, Wire.statOf(NOTHING, -1, -1, -1, -1, "n", "u", "gg", "mmm")));
    }

    /** "s: 2 bytes for how many, and so many bytes": there may be none. */
    private static void emptyTextsAreTexts() {
        Bench b = Bench.attached();
        b.ok(Wire.version(1000, ""), new Wire().n4(1000).s("unknown").bytes());
        b.ok(Wire.version(1000, "9P2000"));
        b.error(3, Wire.auth(0, "", ""));
        b.ok(Wire.attach(0, Wire.NOFID, "", ""));
        b.error(8, Wire.walk(0, 1, ""));
        b.error(6, Wire.create(0, "", 0, 0));
        b.error(3, Wire.write(0, 0, ""));
        b.ok(Wire.sync(0));
    }

    /** "its length is that of the bytes; nothing is left over": a byte more or fewer, and all that are shorter. */
    private static void everyByteCounts() {
        for (byte[] message : right()) {
            Bench b = new Bench();
            for (int length = 0; length <= message.length + 2; length++) {
                byte[] bytes = Arrays.copyOf(message, length);
                if (length > 3) {
                    bytes[0] = (byte) length;
                }
                if (length != message.length) {
                    b.ill(bytes);
                }
            }
            takes(b, message);
        }
    }

    private static void takes(Bench b, byte[] message) {
        int time = b.server.count(0);
        int ill = b.server.count(11);
        b.send(message);
        b.count(0, time + 1);
        b.count(11, ill);
        b.count(9, 0);
    }

    /** "4 bytes for how many it has itself": all four of them count. */
    private static void lengthIsThatOfTheBytes() {
        for (byte[] message : right()) {
            Bench b = new Bench();
            for (int wrong : new int[] {-1, 1, 256, 1 << 16, 1 << 24, 1 << 31, -message.length}) {
                byte[] bytes = message.clone();
                int length = message.length + wrong;
                for (int i = 0; i < 4; i++) {
                    bytes[i] = (byte) (length >> 8 * i);
                }
                b.ill(bytes);
            }
        }
    }

    /** "The first n bytes of the TAPE": what stands behind them neither fills a MESSAGE up nor spoils it. */
    private static void bytesBehindItAreNoPart() {
        for (byte[] message : right()) {
            Bench b = new Bench();
            byte[] less = message.clone();
            less[0]--;
            b.feed(less);
            Bench.due("message", -1, b.server.message(message.length - 1));
            b.count(11, 1);
            byte[] more = Arrays.copyOf(message, message.length + 20);
            Arrays.fill(more, message.length, more.length, (byte) 255);
            b.feed(more);
            int length = b.server.message(message.length);
            Bench.due("message", b.server.count(10), length);
            Bench.due("type", message[4] == 100 ? 101 : 107, b.server.answer(4));
            b.count(0, 1);
            b.count(11, 1);
            b.count(9, 0);
        }
        // The sixth byte of 9P2000 stands behind a version of five.
        Bench b = new Bench();
        b.feed(Wire.of(100, 0).n4(100).s("9P200").n1('0').sized());
        b.server.bend(0, 18);
        Bench.due("message(18)", 20, b.server.message(18));
        b.count(8, 0);
    }

    /** No type is a MESSAGE's but 100, 102, 104, 108 to 126, even ones. */
    private static void otherTypes() {
        List<Integer> types = List.of(100, 102, 104, 108, 110, 112, 114, 116, 118, 120, 122, 124, 126);
        Bench b = Bench.attached();
        for (int type = 0; type < 256; type++) {
            if (types.contains(type)) {
                continue;
            }
            b.ill(Wire.of(type, 0).sized());
            for (byte[] message : right()) {
                byte[] bytes = message.clone();
                bytes[4] = (byte) type;
                Bench.due("message of type " + type, -1, b.send(bytes));
            }
        }
        b.count(0, 2);
    }

    /** "2 bytes TAG" come back with the ANSWER, and with an ERROR. */
    private static void tags() {
        for (int tag : new int[] {0, 1, 255, 256, 0x7fff, 0x8000, 0xfffe, 0xffff}) {
            Bench b = Bench.attached();
            b.ok(Wire.of(108, tag).n2(0xffff).sized(), new byte[0]);
            b.error(2, Wire.of(124, tag).n4(9).sized());
            b.ok(Wire.of(100, tag).n4(100).s("9P2000").sized());
        }
    }

    /** A text's number one more or less than its bytes, and the largest that there is. */
    private static void textsThatAreTooLongOrShort() {
        byte[][] messages = {Wire.version(1000, "9P2000"), Wire.auth(0, "u", "aa"), Wire.auth(0, "u", "aa"),
            Wire.attach(1, Wire.NOFID, "u", "s0"), Wire.attach(1, Wire.NOFID, "u", "s0"), Wire.walk(0, 1, "ab"),
            Wire.walk(0, 1, "ab", "c"), Wire.create(0, "name", 0, 0), Wire.wstat(0, "nn", -1, -1, -1)};
        int[] places = {11, 11, 14, 15, 18, 17, 21, 11, 54};
        for (int i = 0; i < messages.length; i++) {
            Bench b = Bench.attached();
            for (int wrong : new int[] {-1, 1, 0x100, 0x8000, 0xff00}) {
                byte[] bytes = messages[i].clone();
                int length = (bytes[places[i]] & 255) + wrong;
                bytes[places[i]] = (byte) length;
                bytes[places[i] + 1] = (byte) (length >> 8);
                b.ill(bytes);
            }
        }
    }

    /** "n[2] name[s] n times" */
    private static void howManyNames() {
        Bench b = Bench.attached();
        for (int told : new int[] {0, 1, 3, 17, 255, 256, 0x7fff, 0x8000, 0xffff}) {
            b.ill(Wire.of(110, 0).n4(0).n4(1).n2(told).s("a").s("b").sized());
        }
        b.error(8, Wire.of(110, 0).n4(0).n4(1).n2(2).s("a").s("b").sized());
        b.ill(Wire.of(110, 0).n4(0).n4(1).n2(1).sized());
        b.ill(Wire.of(110, 0).n4(0).n4(1).n2(1).n1(0).sized());
        b.error(8, Wire.of(110, 0).n4(0).n4(1).n2(1).n2(0).sized());
        b.ill(Wire.of(110, 0).n4(0).n4(1).n2(0).n1(0).sized());
        b.ok(Wire.of(110, 0).n4(0).n4(1).n2(0).sized());
    }

    /** "count[4] data[count]" */
    private static void howManyBytesToWrite() {
        Bench b = Bench.attached();
        b.ok(Wire.create(0, "f", 0x1ff, 1));
        int[] told = {0, 1, 3, 256 + 2, 1 << 16 | 2, 1 << 24 | 2, Integer.MAX_VALUE, Integer.MIN_VALUE, Integer.MIN_VALUE + 2, -1, -2};
        for (int count : told) {
            b.ill(Wire.of(118, 0).n4(0).n8(0).n4(count).n2(7).sized());
        }
        b.ok(Wire.of(118, 0).n4(0).n8(0).n4(2).n2(7).sized(), new Wire().n4(2).bytes());
    }

    /** "n[2] STAT (n bytes)", "2 bytes for how many follow": "the STAT of wstat likewise". */
    private static void statOfWstat() {
        Bench b = Bench.attached();
        byte[] stat = Wire.statOf(NOTHING, -1, -1, -1, -1, "nn", "", "", "");
        int size = stat.length;
        Bench.due("bytes of a STAT", 51, size);
        for (int n : new int[] {0, 1, 2, size - 2, size - 1, size + 1, size + 2, size + 256, 0x8000 + size, 0xffff}) {
            b.ill(Wire.of(126, 0).n4(0).n2(n).raw(stat).sized());
        }
        byte[] rest = Arrays.copyOfRange(stat, 2, size);
        for (int follow : new int[] {0, size - 4, size - 3, size - 1, size, size + 254, 0x8000 + size - 2, 0xffff}) {
            b.ill(Wire.of(126, 0).n4(0).n2(size).n2(follow).raw(rest).sized());
        }
        // Both numbers fit the bytes, but the STAT has one more, or one fewer, than its parts.
        b.ill(Wire.of(126, 0).n4(0).n2(size + 1).n2(size - 1).raw(rest).n1(0).sized());
        b.ill(Wire.of(126, 0).n4(0).n2(size - 1).n2(size - 3).raw(Arrays.copyOf(rest, rest.length - 1)).sized());
        for (int bytes = 0; bytes < 49; bytes++) {
            byte[] some = new byte[bytes];
            if (bytes > 1) {
                some[0] = (byte) (bytes - 2);
            }
            b.ill(Wire.wstat(0, some));
        }
        b.error(6, Wire.of(126, 0).n4(0).n2(size).raw(stat).sized());
    }

    /** "are ILL: nothing comes of them": not even the ERROR that would be the first. */
    private static void illBeforeAnyError() {
        Bench b = new Bench();
        b.ill(Wire.of(124, 0).n4(0).n1(0).sized());
        b.error(1, Wire.stat(0));
        b.ok(Wire.version(64, "9P2000"));
        b.ill(Wire.of(124, 0).n4(0).n1(0).sized());
        b.error(2, Wire.stat(0));
        b.ill(Wire.of(100, 0).n4(10).n2(7).raw("9P2000".getBytes()).sized());
        b.count(8, 64);
        b.error(3, Wire.version(10, "9P2000"));
        b.count(8, 0);
    }
}
