import java.nio.ByteBuffer;
import java.nio.ByteOrder;
import java.nio.charset.StandardCharsets;
import java.security.MessageDigest;
import java.util.ArrayList;
import java.util.Arrays;
import java.util.HashMap;
import java.util.HexFormat;
import java.util.LinkedHashMap;
import java.util.List;
import java.util.Map;
import java.util.Set;
import java.util.TreeMap;

/**
 * The document once more, written with the Java library and with no eye on speed: whole trees are
 * copied, messages are taken from a buffer that throws at its end, directories are archived by recursion.
 */
final class Oracle {
    static final class Ill extends RuntimeException { }

    static final class Fault extends RuntimeException {
        final int number;

        Fault(int number) {
            this.number = number;
        }
    }

    static final class F {
        String name;
        int parent;
        int mode;
        int version;
        int mtime;
        byte[] data = {};

        F copy() {
            F f = new F();
            f.name = name;
            f.parent = parent;
            f.mode = mode;
            f.version = version;
            f.mtime = mtime;
            f.data = data.clone();
            return f;
        }

        String text() {
            return name + "|" + parent + "|" + mode + "|" + version + "|" + mtime + "|" + Arrays.toString(data);
        }

        boolean dir() {
            return mode < 0;
        }
    }

    static final class Handle {
        int tree;
        int path;
        boolean open;
        int mode;
        long told;
        int last;
    }

    final List<Byte> tape = new ArrayList<>();
    byte[] latest = {};
    TreeMap<Integer, F> live = new TreeMap<>();
    final List<TreeMap<Integer, F>> snaps = new ArrayList<>();
    final List<TreeMap<Integer, F>> undo = new ArrayList<>();
    final Map<Integer, Handle> fids = new HashMap<>();
    /** The blocks' sizes by their scores, in the order in which they came. */
    final Map<String, Integer> store = new LinkedHashMap<>();
    int paths = 1;
    int time;
    int ill;
    int errors;
    int msize;

    Oracle() {
        F root = new F();
        root.name = "/";
        root.mode = 0x800001ff;
        live.put(0, root);
    }

    int feed(int... fives) {
        if (tape.size() + 20 > 1400) {
            return -1;
        }
        for (int five : fives) {
            for (byte b : ByteBuffer.allocate(4).putInt(five).array()) {
                tape.add(b);
            }
        }
        return tape.size();
    }

    int bend(int i, int v) {
        return i < 0 || i >= tape.size() ? -1 : tape.set(i, (byte) v) & 255;
    }

    int answer(int i) {
        return i < 0 || i >= latest.length ? -1 : latest[i] & 255;
    }

    int word(int i) {
        if (i < 0) {
            return 0;
        }
        long sum = 0;
        for (long k = 0; k < 4; k++) {
            sum += i + k < latest.length ? (long) (latest[(int) (i + k)] & 255) << 8 * k : 0;
        }
        return (int) sum;
    }

    int message(int n) {
        if (n < 0 || n > tape.size()) {
            return -2;
        }
        byte[] bytes = new byte[n];
        for (int i = 0; i < n; i++) {
            bytes[i] = tape.get(i);
        }
        tape.clear();
        Message m;
        try {
            m = new Message(bytes);
        } catch (Ill e) {
            ill++;
            return -1;
        }
        time++;
        String before = textOf(live);
        TreeMap<Integer, F> copy = copyOf(live);
        boolean[] sync = {false};
        try {
            latest = Wire.of(m.type + 1, m.tag).raw(serve(m, sync).bytes()).sized();
        } catch (Fault fault) {
            errors++;
            latest = Wire.of(107, m.tag).n2(1).n1(48 + fault.number).sized();
        }
        if (!before.equals(textOf(live))) {
            undo.add(copy);
            if (undo.size() > 20) {
                undo.remove(0);
            }
        }
        if (sync[0]) {
            undo.clear();
        }
        return latest.length;
    }

    static TreeMap<Integer, F> copyOf(TreeMap<Integer, F> tree) {
        TreeMap<Integer, F> copy = new TreeMap<>();
        tree.forEach((path, f) -> copy.put(path, f.copy()));
        return copy;
    }

    static String textOf(TreeMap<Integer, F> tree) {
        StringBuilder text = new StringBuilder();
        tree.forEach((path, f) -> text.append(path).append(':').append(f.text()).append('\n'));
        return text.toString();
    }

    static final class Message {
        final int type;
        final int tag;
        int fid;
        int other;
        int mode;
        int perm;
        long offset;
        long many;
        byte[] data;
        byte[] typeDevQid;
        int atime;
        int mtime;
        long length;
        final List<String> texts = new ArrayList<>();
        private final ByteBuffer in;

        Message(byte[] bytes) {
            in = ByteBuffer.wrap(bytes).order(ByteOrder.LITTLE_ENDIAN);
            need(7);
            if (in.getInt() != bytes.length) {
                throw new Ill();
            }
            type = in.get() & 255;
            tag = in.getShort() & 0xffff;
            body();
            if (in.hasRemaining()) {
                throw new Ill();
            }
        }

        private void body() {
            if (type == 100) {
                other = n4();
                s();
            } else if (type == 102) {
                other = n4();
                s();
                s();
            } else if (type == 108) {
                n2();
            } else if (List.of(104, 110, 112, 114, 116, 118, 120, 122, 124, 126).contains(type)) {
                fid = n4();
                rest();
            } else {
                throw new Ill();
            }
        }

        private void rest() {
            if (type == 104) {
                other = n4();
                s();
                s();
            } else if (type == 110) {
                other = n4();
                many = n2();
                for (int i = 0; i < many; i++) {
                    s();
                }
            } else if (type == 112) {
                mode = n1();
            } else if (type == 114) {
                s();
                perm = n4();
                mode = n1();
            } else if (type == 116) {
                offset = n8();
                many = n4() & 0xffffffffL;
            } else if (type == 118) {
                offset = n8();
                many = n4() & 0xffffffffL;
                data = raw(many);
            } else if (type == 126) {
                stat();
            }
        }

        private void stat() {
            int n = n2();
            if (n != in.remaining() || n2() != n - 2) {
                throw new Ill();
            }
            typeDevQid = raw(19);
            perm = n4();
            atime = n4();
            mtime = n4();
            length = n8();
            for (int i = 0; i < 4; i++) {
                s();
            }
        }

        private void need(long bytes) {
            if (in.remaining() < bytes) {
                throw new Ill();
            }
        }

        private int n1() {
            need(1);
            return in.get() & 255;
        }

        private int n2() {
            need(2);
            return in.getShort() & 0xffff;
        }

        private int n4() {
            need(4);
            return in.getInt();
        }

        private long n8() {
            need(8);
            return in.getLong();
        }

        private byte[] raw(long bytes) {
            need(bytes);
            byte[] raw = new byte[(int) bytes];
            in.get(raw);
            return raw;
        }

        private void s() {
            texts.add(new String(raw(n2()), StandardCharsets.ISO_8859_1));
        }
    }

    private static void fault(boolean holds, int number) {
        if (holds) {
            throw new Fault(number);
        }
    }

    private TreeMap<Integer, F> tree(int number) {
        return number == -1 ? live : number >= 0 && number < snaps.size() ? snaps.get(number) : null;
    }

    private Wire serve(Message m, boolean[] sync) {
        Wire out = new Wire();
        if (m.type == 100) {
            fids.clear();
            msize = 0;
            fault(Integer.compareUnsigned(m.other, 64) < 0, 3);
            int lesser = Integer.compareUnsigned(m.other, 1000) < 0 ? m.other : 1000;
            boolean known = m.texts.get(0).startsWith("9P2000");
            msize = known ? lesser : 0;
            return out.n4(lesser).s(known ? "9P2000" : "unknown");
        }
        fault(msize == 0, 1);
        fault(m.type == 102, 3);
        if (m.type == 108) {
            return out;
        }
        if (m.type == 104) {
            return attach(m, out);
        }
        Handle h = fids.get(m.fid);
        fault(h == null, 2);
        TreeMap<Integer, F> tree = tree(h.tree);
        F f = tree.get(h.path);
        if (m.type == 120 || m.type == 122) {
            fids.remove(m.fid);
            boolean wanted = m.type == 122 || h.open && (h.mode & 64) != 0;
            int why = f == null ? 4 : h.path == 0 || h.tree != -1 ? 3 : f.dir() && !in(live, h.path).isEmpty() ? 5 : 0;
            fault(m.type == 122 && why != 0, why);
            if (wanted && why == 0) {
                live.remove(h.path);
                changed(live.get(f.parent));
            }
            return out;
        }
        fault(f == null, 4);
        switch (m.type) {
            case 110: return walk(m, h, tree, out);
            case 112: return open(m, h, f, out);
            case 114: return create(m, h, f, out);
            case 116: return read(m, h, tree, f, out);
            case 118: return write(m, h, f, out);
            case 124: byte[] stat = stat(h.path, f); return out.n2(stat.length).raw(stat);
            default: return wstat(m, h, f, out, sync);
        }
    }

    private void changed(F f) {
        f.version++;
        f.mtime = time;
    }

    private static List<Integer> in(TreeMap<Integer, F> tree, int dir) {
        List<Integer> in = new ArrayList<>();
        tree.forEach((path, f) -> {
            if (path != 0 && f.parent == dir) {
                in.add(path);
            }
        });
        return in;
    }

    private static int named(TreeMap<Integer, F> tree, int dir, String name) {
        return in(tree, dir).stream().filter(path -> tree.get(path).name.equals(name)).findFirst().orElse(-1);
    }

    private static boolean mayBe(String name) {
        return name.length() >= 1 && name.length() <= 20 && name.indexOf(0) < 0 && name.indexOf('/') < 0
                && !name.equals(".") && !name.equals("..");
    }

    private static boolean badMode(int mode) {
        return !Set.of(0, 1, 2, 16, 17, 18, 64, 65, 66, 80, 81, 82).contains(mode);
    }

    private Wire attach(Message m, Wire out) {
        fault(m.other != -1, 3);
        fault(fids.containsKey(m.fid), 5);
        String aname = m.texts.get(1);
        fault(!aname.isEmpty() && !aname.matches("s[0-9]"), 6);
        int number = aname.isEmpty() ? -1 : aname.charAt(1) - '0';
        fault(tree(number) == null, 6);
        fault(fids.size() == 24, 7);
        Handle h = new Handle();
        h.tree = number;
        fids.put(m.fid, h);
        return out.raw(Wire.qid(true, tree(number).get(0).version, 0));
    }

    private Wire walk(Message m, Handle h, TreeMap<Integer, F> tree, Wire out) {
        boolean same = m.fid == m.other;
        fault(h.open, 3);
        fault(!same && fids.containsKey(m.other), 5);
        fault(m.many > 16, 6);
        fault(!same && fids.size() == 24, 7);
        List<Integer> come = new ArrayList<>();
        int at = h.path;
        for (String name : m.texts) {
            int next = !tree.get(at).dir() ? -1 : name.equals("..") ? tree.get(at).parent : named(tree, at, name);
            if (next < 0) {
                break;
            }
            at = next;
            come.add(at);
        }
        fault(come.isEmpty() && m.many > 0, 8);
        out.n2(come.size());
        come.forEach(path -> out.raw(Wire.qid(tree.get(path).dir(), tree.get(path).version, path)));
        if (come.size() == m.many) {
            Handle made = same ? h : new Handle();
            made.tree = h.tree;
            made.path = at;
            fids.put(m.other, made);
        }
        return out;
    }

    private Wire open(Message m, Handle h, F f, Wire out) {
        fault(h.open, 3);
        fault(badMode(m.mode), 5);
        fault((f.dir() || h.tree != -1) && m.mode != 0, 6);
        int low = m.mode & 3;
        fault((low == 0 || low == 2) && (f.mode >> 8 & 1) == 0, 7);
        fault((low == 1 || low == 2 || (m.mode & 16) == 16) && (f.mode >> 7 & 1) == 0, 7);
        openAs(h, m.mode);
        if ((m.mode & 16) == 16 && f.data.length != 0) {
            f.data = new byte[0];
            changed(f);
        }
        return out.raw(Wire.qid(f.dir(), f.version, h.path)).n4(0);
    }

    private static void openAs(Handle h, int mode) {
        h.open = true;
        h.mode = mode;
        h.told = 0;
        h.last = 0;
    }

    private Wire create(Message m, Handle h, F f, Wire out) {
        String name = m.texts.get(0);
        fault(h.open, 3);
        fault(!f.dir() || h.tree != -1, 5);
        fault(!mayBe(name), 6);
        fault(named(live, h.path, name) >= 0, 7);
        fault(badMode(m.mode) || m.perm < 0 && m.mode != 0, 8);
        fault(paths == 60, 9);
        F made = new F();
        made.name = name;
        made.parent = h.path;
        made.mode = m.perm & 0x800001ff;
        made.mtime = time;
        live.put(paths, made);
        changed(f);
        h.path = paths++;
        openAs(h, m.mode);
        return out.raw(Wire.qid(made.dir(), 0, h.path)).n4(0);
    }

    private Wire read(Message m, Handle h, TreeMap<Integer, F> tree, F f, Wire out) {
        fault(!h.open || (h.mode & 3) == 1, 3);
        long count = Math.min(m.many, msize - 11);
        Wire data = new Wire();
        if (f.dir()) {
            fault(m.offset != 0 && m.offset != h.told, 5);
            if (m.offset == 0) {
                openAs(h, h.mode);
            }
            for (int path : in(tree, h.path)) {
                byte[] stat = stat(path, tree.get(path));
                if (path > h.last) {
                    if (data.bytes().length + stat.length > count) {
                        break;
                    }
                    data.raw(stat);
                    h.last = path;
                }
            }
            h.told += data.bytes().length;
        } else if (m.offset >= 0 && m.offset < f.data.length) {
            int to = (int) Math.min(f.data.length, m.offset + count);
            data.raw(Arrays.copyOfRange(f.data, (int) m.offset, to));
        }
        return out.n4(data.bytes().length).raw(data.bytes());
    }

    private Wire write(Message m, Handle h, F f, Wire out) {
        fault(!h.open || (h.mode & 3) == 0, 3);
        fault(Long.compareUnsigned(m.offset, 512) > 0 || m.offset + m.many > 512, 5);
        if (m.many > 0) {
            int end = (int) (m.offset + m.many);
            f.data = Arrays.copyOf(f.data, Math.max(end, f.data.length));
            System.arraycopy(m.data, 0, f.data, (int) m.offset, m.data.length);
            changed(f);
        }
        return out.n4((int) m.many);
    }

    private static byte[] stat(int path, F f) {
        return Wire.statOfFile(path, f.version, f.mode, f.mtime, f.data.length, f.name);
    }

    private Wire wstat(Message m, Handle h, F f, Wire out, boolean[] sync) {
        String name = m.texts.get(0);
        fault(h.tree != -1, 3);
        boolean kept = Arrays.equals(m.typeDevQid, Wire.ones(19)) && m.atime == -1
                && m.texts.subList(1, 4).equals(List.of("", "", ""));
        fault(!kept, 5);
        fault(!name.isEmpty() && (h.path == 0 || !mayBe(name)), 6);
        int bearer = name.isEmpty() ? -1 : named(live, f.parent, name);
        fault(bearer >= 0 && bearer != h.path, 7);
        fault(m.perm != -1 && (m.perm < 0 != f.dir() || (m.perm & 0x7ffffe00) != 0), 8);
        fault(m.length != -1 && (f.dir() || Long.compareUnsigned(m.length, 512) > 0), 9);
        if (name.isEmpty() && m.perm == -1 && m.mtime == -1 && m.length == -1) {
            sync[0] = true;
            return out;
        }
        if (m.length != -1 && m.length != f.data.length) {
            f.data = Arrays.copyOf(f.data, (int) m.length);
            changed(f);
        }
        f.name = name.isEmpty() ? f.name : name;
        f.mode = m.perm == -1 ? f.mode : m.perm;
        f.mtime = m.mtime == -1 ? f.mtime : m.mtime;
        return out;
    }

    int snap() {
        if (snaps.size() == 6) {
            return -1;
        }
        snaps.add(copyOf(live));
        return snaps.size() - 1;
    }

    static byte[] sha(byte[] bytes) {
        try {
            return MessageDigest.getInstance("SHA-1").digest(bytes);
        } catch (java.security.NoSuchAlgorithmException e) {
            throw new IllegalStateException(e);
        }
    }

    private byte[] block(byte[] bytes, Map<String, Integer> blocks) {
        byte[] score = sha(bytes);
        blocks.putIfAbsent(HexFormat.of().formatHex(score), bytes.length);
        return score;
    }

    private byte[] putAway(TreeMap<Integer, F> tree, int path, Map<String, Integer> blocks) {
        Wire last = new Wire();
        F f = tree.get(path);
        if (f.dir()) {
            for (int child : in(tree, path)) {
                byte[] score = putAway(tree, child, blocks);
                last.raw(stat(child, tree.get(child))).raw(score);
            }
        } else {
            for (int at = 0; at < f.data.length; at += 64) {
                last.raw(block(Arrays.copyOfRange(f.data, at, Math.min(at + 64, f.data.length)), blocks));
            }
        }
        return block(last.bytes(), blocks);
    }

    int archive(int k) {
        if (k < 0 || k >= snaps.size()) {
            return -1;
        }
        Map<String, Integer> blocks = new LinkedHashMap<>();
        putAway(snaps.get(k), 0, blocks);
        blocks.keySet().removeAll(store.keySet());
        if (store.size() + blocks.size() > 600) {
            return -2;
        }
        store.putAll(blocks);
        return blocks.size();
    }

    int score(int k, int i) {
        if (k < 0 || k >= snaps.size() || i < 0 || i > 19) {
            return -1;
        }
        return putAway(snaps.get(k), 0, new HashMap<>())[i] & 255;
    }

    int crash(int n) {
        if (n < 0 || n > undo.size()) {
            return -1;
        }
        if (n > 0) {
            live = undo.get(undo.size() - n);
        }
        undo.clear();
        fids.clear();
        msize = 0;
        return 1;
    }

    int file(int number, int path, int what) {
        F f = tree(number) == null ? null : tree(number).get(path);
        if (f == null || what < 0 || what > 5) {
            return -9;
        }
        int many = f.dir() ? in(tree(number), path).size() : f.data.length;
        return new int[] {f.parent, f.version, f.mode, f.mtime, many, f.name.length()}[what];
    }

    int fid(int number, int what) {
        Handle h = fids.get(number);
        if (h == null || what < 0 || what > 4) {
            return -9;
        }
        int lost = tree(h.tree).containsKey(h.path) ? 0 : 1;
        return new int[] {h.tree, h.path, h.open ? 1 : 0, h.mode, lost}[what];
    }

    int count(int what) {
        int bytes = store.values().stream().mapToInt(Integer::intValue).sum();
        int[] counts = {time, live.size(), paths, fids.size(), snaps.size(), undo.size(), store.size(), bytes, msize,
            tape.size(), latest.length, ill, errors};
        return what < 0 || what > 12 ? -9 : counts[what];
    }
}
