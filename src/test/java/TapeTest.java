/** Promises 1 to 6: a new object, feed, bend, message, answer, word. */
final class TapeTest {
    public static void main(String[] args) {
        newObject();
        feed();
        bend();
        messageBounds();
        illHeads();
        illBodies();
        illStats();
        answerAndWord();
        Bench.end();
    }

    private static void newObject() {
        Bench b = new Bench();
        int[] counts = {0, 1, 1, 0, 0, 0, 0, 0, 0, 0, 0, 0, 0};
        for (int what = 0; what < counts.length; what++) {
            b.count(what, counts[what]);
        }
        b.count(13, -9);
        b.count(-1, -9);
        b.file(-1, 0, 0, 0, 0x800001ff, 0, 0, 1);
        b.noFile(-1, 1);
        b.noFile(0, 0);
        b.noFid(0);
        Bench.due("answer(0)", -1, b.server.answer(0));
        Bench.due("word(0)", 0, b.server.word(0));
        b.error(1, Wire.stat(0));
        b.error(1, Wire.flush(0));
        b.error(1, Wire.auth(0, "", ""));
        b.error(1, Wire.attach(0, Wire.NOFID, "", ""));
    }

    private static void feed() {
        Bench b = new Bench();
        for (int i = 1; i <= 70; i++) {
            Bench.due("feed", 20 * i, b.server.feed(0x01020304, -1, 0x80000000, i, 0xff));
        }
        Bench.due("feed without room", -1, b.server.feed(1, 2, 3, 4, 5));
        b.count(9, 1400);
        int[] due = {1, 2, 3, 4, 255, 255, 255, 255, 128, 0, 0, 0, 0, 0, 0, 70, 0, 0, 0, 255};
        for (int i = 0; i < 20; i++) {
            Bench.due("byte " + (1380 + i), due[i], b.server.bend(1380 + i, 0));
        }
        Bench.due("message", -1, b.server.message(1400));
        Bench.due("feed", 20, b.server.feed(0, 0, 0, 0, 0));
    }

    private static void bend() {
        Bench b = new Bench();
        Bench.due("bend of nothing", -1, b.server.bend(0, 1));
        b.server.feed(0xff000000, 0, 0, 0, 0);
        Bench.due("bend", 255, b.server.bend(0, 0x1234));
        Bench.due("bend", 0x34, b.server.bend(0, -1));
        Bench.due("bend", 255, b.server.bend(0, 0));
        Bench.due("bend", 0, b.server.bend(19, 9));
        Bench.due("bend", 9, b.server.bend(19, 9));
        Bench.due("bend below", -1, b.server.bend(-1, 1));
        Bench.due("bend above", -1, b.server.bend(20, 1));
        Bench.due("bend above", -1, b.server.bend(Integer.MAX_VALUE, 1));
        Bench.due("bend below", -1, b.server.bend(Integer.MIN_VALUE, 1));
        b.count(9, 20);
        // A bent message is taken as bent.
        b = Bench.attached();
        byte[] flush = Wire.flush(3);
        b.feed(flush);
        b.server.bend(5, 0x77);
        Bench.due("message", 7, b.server.message(flush.length));
        Bench.due("tag", 0x77, b.server.answer(5));
    }

    private static void messageBounds() {
        Bench b = new Bench();
        Bench.due("message(-1)", -2, b.server.message(-1));
        Bench.due("message(1)", -2, b.server.message(1));
        b.count(11, 0);
        Bench.due("message(0)", -1, b.server.message(0));
        b.count(11, 1);
        b.server.feed(0, 0, 0, 0, 0);
        Bench.due("message(21)", -2, b.server.message(21));
        Bench.due("message(min)", -2, b.server.message(Integer.MIN_VALUE));
        b.count(9, 20);
        b.count(11, 1);
        Bench.due("message(3)", -1, b.server.message(3));
        b.count(9, 0);
        b.count(11, 2);
        b.count(0, 0);
        // What stands behind the first n bytes is gone with them.
        b = Bench.attached();
        b.feed(Wire.flush(0));
        b.feed(Wire.flush(0));
        Bench.due("message", 7, b.server.message(9));
        b.count(9, 0);
        b.count(0, 3);
    }

    private static void illHeads() {
        Bench b = Bench.attached();
        byte[] short6 = {6, 0, 0, 0, 120, 0};
        b.ill(short6);
        for (int type = 0; type < 256; type++) {
            boolean known = type >= 100 && type <= 126 && type % 2 == 0 && type != 106;
            if (!known) {
                b.ill(Wire.of(type, 0).n4(0).sized());
            }
        }
        byte[] stat = Wire.stat(0);
        for (int at = 0; at < 4; at++) {
            byte[] wrong = stat.clone();
            wrong[at] ^= 1;
            b.ill(wrong);
            wrong[at] ^= (byte) 0x81;
            b.ill(wrong);
        }
        b.ok(stat);
    }

    private static void illBodies() {
        Bench b = Bench.attached();
        byte[][] good = {Wire.auth(0, "u", "a"), Wire.attach(5, Wire.NOFID, "u", ""), Wire.flush(1),
            Wire.walk(0, 1, "a", "b"), Wire.open(0, 0), Wire.create(0, "a", 0, 0), Wire.read(0, 0, 0),
            Wire.write(0, 0, "data"), Wire.stat(0), Wire.sync(0), Wire.clunk(0), Wire.remove(0),
            Wire.version(100, "9P2000")};
        for (byte[] message : good) {
            for (int off = -3; off <= 3; off++) {
                byte[] wrong = java.util.Arrays.copyOf(message, message.length + off);
                wrong[0] = (byte) wrong.length;
                if (off != 0) {
                    b.ill(wrong);
                }
            }
        }
        b.ill(Wire.of(110, 0).n4(0).n4(1).n2(0xffff).sized());
        b.ill(Wire.of(110, 0).n4(0).n4(1).n2(1).n2(0xffff).sized());
        b.ill(Wire.of(110, 0).n4(0).n4(1).n2(1).sized());
        b.ill(Wire.of(118, 0).n4(0).n8(0).n4(-1).sized());
        b.ill(Wire.of(118, 0).n4(0).n8(0).n4(0x80000000).n1(7).sized());
        b.ill(Wire.of(100, 0).n4(100).n2(7).raw("9P2000".getBytes()).sized());
        b.count(3, 1);
    }

    private static void illStats() {
        Bench b = Bench.attached();
        byte[] stat = Wire.statOf(Wire.ones(19), -1, -1, -1, -1, "ab", "", "", "");
        for (int delta : new int[] {-2, -1, 1, 2}) {
            b.ill(Wire.of(126, 0).n4(0).n2(stat.length + delta).raw(stat).sized());
            byte[] wrong = stat.clone();
            wrong[0] += (byte) delta;
            b.ill(Wire.wstat(0, wrong));
            wrong = stat.clone();
            wrong[41] += (byte) delta;
            b.ill(Wire.wstat(0, wrong));
        }
        b.ill(Wire.wstat(0, Wire.statOf(Wire.ones(19), -1, -1, -1, -1, "", "", "")));
        b.ill(Wire.wstat(0, Wire.statOf(Wire.ones(19), -1, -1, -1, -1, "", "", "", "", "")));
        b.ill(Wire.wstat(0, new byte[0]));
        b.ill(Wire.wstat(0, new byte[1]));
        b.ill(Wire.wstat(0, new byte[2]));
        b.ill(Wire.of(126, 0).n4(0).sized());
        b.error(6, Wire.wstat(0, stat));
    }

    private static void answerAndWord() {
        Bench b = Bench.attached();
        b.ok(Wire.of(108, 0xabcd).n2(1).sized());
        int[] due = {7, 0, 0, 0, 109, 0xcd, 0xab};
        for (int i = 0; i < 7; i++) {
            Bench.due("answer", due[i], b.server.answer(i));
        }
        Bench.due("answer(-1)", -1, b.server.answer(-1));
        Bench.due("answer(7)", -1, b.server.answer(7));
        Bench.due("answer(max)", -1, b.server.answer(Integer.MAX_VALUE));
        Bench.due("word(0)", 7, b.server.word(0));
        Bench.due("word(3)", 0xabcd6d00, b.server.word(3));
        Bench.due("word(4)", 0x00abcd6d, b.server.word(4));
        Bench.due("word(6)", 0xab, b.server.word(6));
        Bench.due("word(7)", 0, b.server.word(7));
        Bench.due("word(-1)", 0, b.server.word(-1));
        Bench.due("word(-3)", 0, b.server.word(-3));
        Bench.due("word(max)", 0, b.server.word(Integer.MAX_VALUE));
        b.count(10, 7);
        b.server.crash(0);
        b.count(10, 7);
    }
}
