import java.util.ArrayList;
import java.util.Arrays;
import java.util.List;
import java.util.Random;

/** Runs of calls by fixed seeds, each answer held against the Oracle's. */
final class RandomRunsTest {
    private static final int[] MODES = {0, 0, 1, 2, 2, 16, 17, 18, 64, 65, 66, 3, 4, 128, 82};
    private static final int[] PERMS = {0x1ff, 0x1a4, 0x80000000, 0x800001ff, 0x80000100, 0x100, 0x80, 0, 0xffffffff, 0x7fffffff};
    private static final String[] NAMES = {"a", "b", "c", "dd", "twenty-bytes-long-na", "", ".", "..", "x/y", "z\0",
        "twenty-one-bytes-long", "\u00e9", "s0"};
    private static final long[] OFFSETS = {0, 0, 0, 1, 53, 54, 63, 64, 106, 108, 300, 511, 512, 513, -1, 1L << 32, Long.MIN_VALUE};

    private final Random random;
    private final Twin twin;
    private final Bench bench;
    private final Oracle oracle;
    /** Lets few things go, so that rows fill up. */
    private final boolean hoards;

    private RandomRunsTest(long seed) {
        random = new Random(seed);
        twin = new Twin("seed " + seed);
        bench = twin.bench;
        oracle = twin.oracle;
        hoards = seed % 3 == 1;
    }

    public static void main(String[] args) {
        int runs = args.length > 0 ? Integer.parseInt(args[0]) : 120;
        for (int seed = 0; seed < runs; seed++) {
            new RandomRunsTest(seed).go(seed % 3 == 0 ? 60 : 300);
        }
        Bench.end();
    }

    private void go(int steps) {
        send(Wire.version(pick(64, 128, 500, 1000, 8000), "9P2000"));
        send(Wire.attach(0, -1, "u", ""));
        for (int step = 0; step < steps; step++) {
            twin.step = step;
            int what = random.nextInt(100);
            if (what < 90) {
                send(spoilt(randomMessage()));
            } else if (what < 91) {
                twin.snap();
            } else if (what < 93) {
                twin.archive(number(-1, 7));
            } else if (what < 95) {
                twin.scores(number(-1, 7));
            } else if (what < 96 && (!hoards || random.nextInt(20) == 0)) {
                crash();
            } else {
                tape();
            }
            if (step % 4 == 0) {
                compare();
            }
        }
    }

    private void crash() {
        twin.crash(number(-1, 1 + random.nextInt(21)));
        if (random.nextInt(4) > 0) {
            send(Wire.version(pick(64, 200, 1000), "9P2000"));
            send(Wire.attach(0, -1, "u", ""));
        }
    }

    private void tape() {
        twin.feed(random.ints(5).toArray());
        int i = number(-2, 1402);
        int v = random.nextInt();
        same("bend", oracle.bend(i, v), bench.server.bend(i, v));
        twin.message("of the tape", number(-1, 42));
    }

    private byte[] spoilt(byte[] message) {
        int how = random.nextInt(60);
        if (how == 0) {
            message[random.nextInt(message.length)] ^= (byte) (1 << random.nextInt(8));
        } else if (how == 1) {
            message = Arrays.copyOf(message, Math.max(0, message.length + number(-3, 3)));
        } else if (how == 2) {
            message = Arrays.copyOf(message, Math.max(4, message.length + number(-3, 3)));
            message[0] = (byte) message.length;
            message[1] = (byte) (message.length >> 8);
        }
        return message;
    }

    private byte[] randomMessage() {
        int f = fid();
        if (oracle.fids.isEmpty() && random.nextInt(3) > 0) {
            return oracle.msize == 0 ? Wire.version(1000, "9P2000") : Wire.attach(0, -1, "u", "");
        }
        if (hoards && random.nextInt(4) == 0) {
            return random.nextInt(2) == 0 ? Wire.walk(rootFid(), f, freshest()) : Wire.walk(rootFid(), newFid());
        }
        switch (hoards ? pick(4, 5, 8, 10, 13, 14, 16, 17, 18, 19, 22, 23, 24, 24, 24, 25) : random.nextInt(26)) {
            case 0: return random.nextInt(12) > 0 ? Wire.flush(7)
                    : Wire.version(pick(63, 64, -1, 1000, 300), pick("9P2000", "9P2000.u", "9P200", "9p2000"));
            case 1: return Wire.auth(f, "u", "");
            case 2:
            case 3: return Wire.attach(newFid(), random.nextInt(9) == 0 ? 3 : -1, "u", pick("", "s0", "s1", "s5", "s", "sa", "s00", "t0"));
            case 4:
            case 5:
            case 6:
            case 7: return walk(f);
            case 8:
            case 9: return Wire.open(f, MODES[random.nextInt(MODES.length)]);
            case 10:
            case 11:
            case 12: return Wire.create(f, name(), PERMS[random.nextInt(PERMS.length)], MODES[random.nextInt(MODES.length)]);
            case 13:
            case 14:
            case 15: return Wire.read(f, offset(f), pick(-1, 0, 20, 54, 120, 500, 1000));
            case 16:
            case 17: return Wire.write(f, OFFSETS[random.nextInt(OFFSETS.length)], data());
            case 18: return Wire.clunk(f);
            case 19: return Wire.remove(f);
            case 20: return Wire.stat(f);
            case 21:
            case 22: return wstat(f);
            case 23: return Wire.open(f, pick(0, 0, 1, 2, 16, 18, 66));
            case 24: return Wire.create(f, freshName(), pick(0x1ff, 0x1b6, 0x800001ff), 0);
            default: return Wire.write(f, random.nextInt(300), data());
        }
    }

    private byte[] walk(int f) {
        String[] names = new String[random.nextInt(12) == 0 ? number(15, 18) : random.nextInt(4)];
        boolean up = random.nextInt(8) == 0;
        for (int i = 0; i < names.length; i++) {
            names[i] = up || random.nextInt(4) == 0 ? ".." : name();
        }
        if (random.nextInt(2) == 0 && names.length > 0) {
            f = rootFid();
            names[0] = freshest();
        }
        return Wire.walk(f, random.nextInt(4) == 0 ? f : newFid(), names);
    }

    private byte[] wstat(int f) {
        if (random.nextInt(12) == 0) {
            return Wire.sync(f);
        }
        byte[] fixed = Wire.ones(19);
        if (random.nextInt(15) == 0) {
            fixed[random.nextInt(19)] = 0;
        }
        String[] texts = {random.nextInt(3) == 0 ? name() : "", "", "", ""};
        if (random.nextInt(15) == 0) {
            texts[number(1, 3)] = "g";
        }
        int mode = random.nextInt(3) == 0 ? PERMS[random.nextInt(PERMS.length)] : -1;
        int atime = random.nextInt(20) == 0 ? 0 : -1;
        int mtime = random.nextInt(3) == 0 ? random.nextInt(40) : -1;
        long length = random.nextInt(3) == 0 ? OFFSETS[random.nextInt(OFFSETS.length)] : -1;
        return Wire.wstat(f, Wire.statOf(fixed, mode, atime, mtime, length, texts));
    }

    private long offset(int f) {
        Oracle.Handle h = oracle.fids.get(f);
        return h != null && random.nextInt(2) == 0 ? h.told : OFFSETS[random.nextInt(OFFSETS.length)];
    }

    private byte[] data() {
        byte[] data = new byte[pick(0, 1, 5, 64, 65, 130, 513)];
        for (int i = 0; i < data.length; i++) {
            data[i] = (byte) random.nextInt(random.nextInt(3) == 0 ? 256 : 2);
        }
        return data;
    }

    /** Most often one that is there. */
    private int fid() {
        if (oracle.fids.isEmpty() || random.nextInt(25) == 0) {
            return newFid();
        }
        List<Integer> there = new ArrayList<>(oracle.fids.keySet());
        return there.get(random.nextInt(there.size()));
    }

    private int newFid() {
        return random.nextInt(8) == 0 ? random.nextInt() : number(-1, 29);
    }

    private int rootFid() {
        for (int number : oracle.fids.keySet()) {
            Oracle.Handle h = oracle.fids.get(number);
            if (h.path == 0 && !h.open) {
                return number;
            }
        }
        return 0;
    }

    private String freshest() {
        return "n" + Math.max(0, oracle.paths - 1 - random.nextInt(5));
    }

    private String freshName() {
        return "n" + oracle.paths;
    }

    private String name() {
        if (random.nextInt(3) == 0) {
            return "n" + random.nextInt(oracle.paths);
        }
        return NAMES[random.nextInt(random.nextInt(6) == 0 ? NAMES.length : 5)];
    }

    private int number(int low, int high) {
        return low + random.nextInt(high - low + 1);
    }

    private int pick(int... of) {
        return of[random.nextInt(of.length)];
    }

    private String pick(String... of) {
        return of[random.nextInt(of.length)];
    }

    private void send(byte[] message) {
        twin.send(message);
    }

    private void same(String call, int want, int got) {
        twin.same(call, want, got);
    }

    private void compare() {
        for (int what = -1; what < 14; what++) {
            same("count " + what, oracle.count(what), bench.server.count(what));
        }
        for (int i = -1; i <= oracle.latest.length; i++) {
            same("answer " + i, oracle.answer(i), bench.server.answer(i));
        }
        int at = number(-2, oracle.latest.length + 2);
        same("word " + at, oracle.word(at), bench.server.word(at));
        for (int tree = -2; tree < 7; tree++) {
            for (int path = -1; path < 61; path++) {
                for (int what = -1; what < 7; what++) {
                    same("file " + tree + " " + path + " " + what, oracle.file(tree, path, what), bench.server.file(tree, path, what));
                }
            }
        }
        for (int f = -3; f < 32; f++) {
            for (int what = -1; what < 6; what++) {
                same("fid " + f + " " + what, oracle.fid(f, what), bench.server.fid(f, what));
            }
        }
    }
}
