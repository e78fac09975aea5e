import java.util.Arrays;

/**
 * A file server that speaks 9P2000 over a tape of bytes, keeps snapshots of its tree, puts them away
 * by their SHA-1 scores, and can crash, which undoes the latest changes that no sync made fast.
 */
public final class EpochServer {
    private static final int LIVE = -1;
    private static final int NONE_SUCH = -9;
    private static final int ROOT = 0;
    private static final int ALL_ONES = -1;

    private static final int MOST_FILES = 60;
    private static final int MOST_FIDS = 24;
    private static final int MOST_SNAPSHOTS = 6;
    private static final int MOST_LOOSE = 20;
    private static final int MOST_BLOCKS = 600;
    private static final int MOST_TAPE = 1400;
    private static final int MOST_DATA = 512;
    private static final int MOST_NAME = 20;
    private static final int MOST_NAMES = 16;
    private static final int MOST_MSIZE = 1000;
    private static final int LEAST_MSIZE = 64;

    private static final int FED = 20;
    private static final int BLOCK_SIZE = 64;
    private static final int SCORE_SIZE = 20;
    private static final int SCORE_WORDS = 5;
    private static final int HEAD_SIZE = 7;
    private static final int READ_HEAD_SIZE = 11;
    private static final int TYPE_DEV_QID_SIZE = 19;
    private static final int STAT_SIZE_WITHOUT_NAME = 52;

    private static final int MODE_BITS = 0x800001ff;
    private static final int MAY_READ = 0x100;
    private static final int MAY_WRITE = 0x80;
    private static final int TRUNCATE = 16;
    private static final int REMOVE_AT_CLUNK = 64;

    private static final int VERSION = 100;
    private static final int AUTH = 102;
    private static final int ATTACH = 104;
    private static final int ERROR = 107;
    private static final int FLUSH = 108;
    private static final int WALK = 110;
    private static final int OPEN = 112;
    private static final int CREATE = 114;
    private static final int READ = 116;
    private static final int WRITE = 118;
    private static final int CLUNK = 120;
    private static final int REMOVE = 122;
    private static final int STAT = 124;
    private static final int WSTAT = 126;

    private static final byte[] NO_BYTES = {};
    private static final byte[] ROOT_NAME = {47};
    private static final byte[] KNOWN_VERSION = {57, 80, 50, 48, 48, 48};
    private static final byte[] UNKNOWN_VERSION = {117, 110, 107, 110, 111, 119, 110};

    private final Bytes tape = new Bytes(MOST_TAPE);
    private final Bytes reply = new Bytes(MOST_MSIZE);
    private final Request request = new Request(tape);
    private final FidTable fids = new FidTable();
    private final Tree live = new Tree();
    private final Journal loose = new Journal();
    private final Snapshots snapshots = new Snapshots();
    private final Archiver archiver = new Archiver();
    private int given = 1;
    private int time = 0;
    private int msize = 0;
    private int ill = 0;
    private int errors = 0;

    public EpochServer() {
        live.put(new Node(ROOT, ROOT, ROOT_NAME, MODE_BITS, 0, 0, NO_BYTES));
    }

    public int feed(int a, int b, int c, int d, int e) {
        if (tape.room() < FED) {
            return -1;
        }
        tape.putHighestFirst(a);
        tape.putHighestFirst(b);
        tape.putHighestFirst(c);
        tape.putHighestFirst(d);
        tape.putHighestFirst(e);
        return tape.size();
    }

    public int bend(int i, int v) {
        int was = tape.at(i);
        tape.set(i, v, 1);
        return was;
    }

    public int message(int n) {
        if (n < 0 || n > tape.size()) {
            return -2;
        }
        boolean whole = request.parse(n);
        if (whole) {
            time++;
            startReply(request.type + 1);
            int error = serve();
            if (error != 0) {
                errors++;
                startReply(ERROR);
                reply.put(1, 2);
                reply.put(48 + error, 1);
            }
            reply.set(0, reply.size(), 4);
        } else {
            ill++;
        }
        // The handlers take names and data from the tape itself, so it is emptied behind them.
        tape.clear();
        return whole ? reply.size() : -1;
    }

    public int answer(int i) {
        return reply.at(i);
    }

    public int word(int i) {
        if (i < 0 || i >= reply.size()) {
            return 0;
        }
        int value = 0;
        for (int k = 3; k >= 0; k--) {
            value = value << 8 | Math.max(0, reply.at(i + k));
        }
        return value;
    }

    public int snap() {
        return snapshots.take(live);
    }

    public int archive(int k) {
        Tree tree = snapshots.tree(k);
        return tree == null ? -1 : archiver.putAway(tree);
    }

    public int score(int k, int i) {
        Tree tree = snapshots.tree(k);
        if (tree == null || i < 0 || i >= SCORE_SIZE) {
            return -1;
        }
        if (!snapshots.isScored(k)) {
            archiver.scoreOnly(tree);
            archiver.copyRootScore(snapshots.scores, k * SCORE_WORDS);
            snapshots.setScored(k);
        }
        return snapshots.scoreByte(k, i);
    }

    public int crash(int n) {
        if (n < 0 || n > loose.size()) {
            return -1;
        }
        Tree before = loose.before(n);
        if (before != null) {
            live.takeOver(before);
        }
        loose.clear();
        fids.clear();
        msize = 0;
        return 1;
    }

    public int file(int tree, int path, int what) {
        Tree its = treeOf(tree);
        Node node = its == null ? null : its.at(path);
        if (node == null) {
            return NONE_SUCH;
        }
        switch (what) {
            case 0: return node.parent;
            case 1: return node.version;
            case 2: return node.mode;
            case 3: return node.mtime;
            case 4: return node.isDirectory() ? its.sizeOf(path) : node.data.length;
            case 5: return node.name.length;
            default: return NONE_SUCH;
        }
    }

    public int fid(int number, int what) {
        Fid its = fids.find(number);
        if (its == null) {
            return NONE_SUCH;
        }
        switch (what) {
            case 0: return its.tree;
            case 1: return its.path;
            case 2: return its.open ? 1 : 0;
            case 3: return its.mode;
            case 4: return nodeOf(its) == null ? 1 : 0;
            default: return NONE_SUCH;
        }
    }

    public int count(int what) {
        switch (what) {
            case 0: return time;
            case 1: return live.size();
            case 2: return given;
            case 3: return fids.size();
            case 4: return snapshots.size();
            case 5: return loose.size();
            case 6: return archiver.store.size;
            case 7: return archiver.store.bytes;
            case 8: return msize;
            case 9: return tape.size();
            case 10: return reply.size();
            case 11: return ill;
            case 12: return errors;
            default: return NONE_SUCH;
        }
    }

    private Tree treeOf(int number) {
        return number == LIVE ? live : snapshots.tree(number);
    }

    private Node nodeOf(Fid fid) {
        Tree tree = treeOf(fid.tree);
        return tree == null ? null : tree.at(fid.path);
    }

    private void startReply(int type) {
        reply.clear();
        reply.put(0, 4);
        reply.put(type, 1);
        reply.put(request.tag, 2);
    }

    /** This, and what it calls, answers an error's number, or 0 with a body behind the answer's head. */
    private int serve() {
        if (request.type == VERSION) {
            return agreeOnVersion();
        }
        if (msize == 0) {
            return 1;
        }
        switch (request.type) {
            case AUTH: return 3;
            case ATTACH: return attach();
            case FLUSH: return 0;
            default: break;
        }
        Fid fid = fids.find(request.fid);
        return fid == null ? 2 : serveFid(fid);
    }

    private int serveFid(Fid fid) {
        Tree tree = treeOf(fid.tree);
        Node node = nodeOf(fid);
        if (request.type == CLUNK) {
            return clunk(fid, node);
        }
        if (request.type == REMOVE) {
            return remove(fid, node);
        }
        if (tree == null || node == null) {
            return 4;
        }
        switch (request.type) {
            case WALK: return walk(fid, tree, node);
            case OPEN: return open(fid, node);
            case CREATE: return create(fid, node);
            case READ: return node.isDirectory() ? readDirectory(fid, tree) : readData(fid, node);
            case WRITE: return write(fid, node);
            case STAT: return stat(node);
            case WSTAT: return wstat(fid, node);
            default: return 0;
        }
    }

    private int agreeOnVersion() {
        fids.clear();
        msize = 0;
        long asked = request.other & 0xffffffffL;
        if (asked < LEAST_MSIZE) {
            return 3;
        }
        int lesser = (int) Math.min(asked, MOST_MSIZE);
        boolean known = request.textBegins(KNOWN_VERSION);
        reply.put(lesser, 4);
        reply.putText(known ? KNOWN_VERSION : UNKNOWN_VERSION);
        if (known) {
            msize = lesser;
        }
        return 0;
    }

    private int attach() {
        if (request.other != ALL_ONES) {
            return 3;
        }
        if (fids.find(request.fid) != null) {
            return 5;
        }
        int number = request.treeAsked();
        Tree tree = treeOf(number);
        Node root = tree == null ? null : tree.at(ROOT);
        if (root == null) {
            return 6;
        }
        if (!fids.make(request.fid, number, ROOT)) {
            return 7;
        }
        reply.putQid(root);
        return 0;
    }

    private int walk(Fid fid, Tree tree, Node start) {
        boolean same = request.other == request.fid;
        if (fid.open) {
            return 3;
        }
        if (!same && fids.find(request.other) != null) {
            return 5;
        }
        if (request.many > MOST_NAMES) {
            return 6;
        }
        if (!same && fids.size() >= MOST_FIDS) {
            return 7;
        }
        Node node = start;
        int come = 0;
        reply.put(0, 2);
        request.toFirstName();
        for (int i = 0; i < request.many; i++) {
            request.readText();
            Node next = step(tree, node);
            if (next == null) {
                break;
            }
            node = next;
            come++;
            reply.putQid(node);
        }
        if (come == 0 && request.many > 0) {
            return 8;
        }
        reply.set(HEAD_SIZE, come, 2);
        if (come == request.many) {
            settle(fid, same, node.path);
        }
        return 0;
    }

    private Node step(Tree tree, Node node) {
        if (!node.isDirectory()) {
            return null;
        }
        return request.textIsDotDot() ? tree.at(node.parent) : tree.named(node.path, request);
    }

    private void settle(Fid fid, boolean same, int path) {
        if (same) {
            fid.path = path;
        } else {
            fids.make(request.other, fid.tree, path);
        }
    }

    private int open(Fid fid, Node node) {
        int mode = request.mode;
        if (fid.open) {
            return 3;
        }
        if (isBadMode(mode)) {
            return 5;
        }
        if (mode != 0 && (node.isDirectory() || fid.tree != LIVE)) {
            return 6;
        }
        if (lacks(node.mode, mode)) {
            return 7;
        }
        fid.openAs(mode);
        Node now = node;
        if ((mode & TRUNCATE) != 0 && node.data.length > 0) {
            now = node.withData(NO_BYTES, time);
            loose.keep(live);
            live.put(now);
        }
        reply.putQid(now);
        reply.put(0, 4);
        return 0;
    }

    private static boolean isBadMode(int mode) {
        return (mode & ~(3 | TRUNCATE | REMOVE_AT_CLUNK)) != 0 || (mode & 3) == 3;
    }

    private static boolean lacks(int fileMode, int mode) {
        boolean reads = (mode & 3) != 1;
        boolean writes = (mode & 3) != 0 || (mode & TRUNCATE) != 0;
        return reads && (fileMode & MAY_READ) == 0 || writes && (fileMode & MAY_WRITE) == 0;
    }

    private int create(Fid fid, Node directory) {
        if (fid.open) {
            return 3;
        }
        if (!directory.isDirectory() || fid.tree != LIVE) {
            return 5;
        }
        if (!request.textMayBeName()) {
            return 6;
        }
        if (live.named(directory.path, request) != null) {
            return 7;
        }
        if (isBadMode(request.mode) || request.perm < 0 && request.mode != 0) {
            return 8;
        }
        if (given >= MOST_FILES) {
            return 9;
        }
        loose.keep(live);
        Node made = new Node(given, directory.path, request.copyText(), request.perm & MODE_BITS, 0, time, NO_BYTES);
        given++;
        live.put(made);
        live.put(directory.withData(directory.data, time));
        fid.path = made.path;
        fid.openAs(request.mode);
        reply.putQid(made);
        reply.put(0, 4);
        return 0;
    }

    private int readData(Fid fid, Node node) {
        if (!fid.isOpenForReading()) {
            return 3;
        }
        int length = node.data.length;
        int from = isAbove(request.offset, length) ? length : (int) request.offset;
        int many = Math.min(roomToRead(), length - from);
        reply.put(many, 4);
        reply.putAll(node.data, from, many);
        return 0;
    }

    private int readDirectory(Fid fid, Tree tree) {
        if (!fid.isOpenForReading()) {
            return 3;
        }
        if (request.offset != 0 && request.offset != fid.told) {
            return 5;
        }
        if (request.offset == 0) {
            fid.rewind();
        }
        int room = roomToRead();
        int many = 0;
        reply.put(0, 4);
        for (int path = fid.last + 1; path < MOST_FILES; path++) {
            Node node = tree.in(fid.path, path);
            if (node == null) {
                continue;
            }
            if (node.statSize() > room - many) {
                break;
            }
            reply.putStat(node);
            many += node.statSize();
            fid.last = path;
        }
        reply.set(HEAD_SIZE, many, 4);
        fid.told += many;
        return 0;
    }

    private int roomToRead() {
        return (int) Math.min(request.many & 0xffffffffL, msize - READ_HEAD_SIZE);
    }

    private int write(Fid fid, Node node) {
        if (!fid.isOpenForWriting()) {
            return 3;
        }
        int many = request.many;
        if (isAbove(request.offset, MOST_DATA) || many > MOST_DATA - (int) request.offset) {
            return 5;
        }
        reply.put(many, 4);
        if (many > 0) {
            int from = (int) request.offset;
            byte[] data = Arrays.copyOf(node.data, Math.max(node.data.length, from + many));
            request.copyTextInto(data, from);
            loose.keep(live);
            live.put(node.withData(data, time));
        }
        return 0;
    }

    private static boolean isAbove(long unsigned, int limit) {
        return unsigned < 0 || unsigned > limit;
    }

    private int clunk(Fid fid, Node node) {
        boolean removes = fid.open && (fid.mode & REMOVE_AT_CLUNK) != 0;
        fid.used = false;
        if (removes && whyNotRemoved(fid.tree, node) == 0) {
            drop(node);
        }
        return 0;
    }

    private int remove(Fid fid, Node node) {
        fid.used = false;
        int error = whyNotRemoved(fid.tree, node);
        if (error == 0) {
            drop(node);
        }
        return error;
    }

    private int whyNotRemoved(int tree, Node node) {
        if (node == null) {
            return 4;
        }
        if (node.path == ROOT || tree != LIVE) {
            return 3;
        }
        return node.isDirectory() && live.sizeOf(node.path) > 0 ? 5 : 0;
    }

    private void drop(Node node) {
        loose.keep(live);
        live.drop(node.path);
        Node directory = live.at(node.parent);
        if (directory != null) {
            live.put(directory.withData(directory.data, time));
        }
    }

    private int stat(Node node) {
        reply.put(node.statSize(), 2);
        reply.putStat(node);
        return 0;
    }

    private int wstat(Fid fid, Node node) {
        int error = whyNotBent(fid, node);
        if (error != 0) {
            return error;
        }
        if (request.asksNothing()) {
            loose.clear();
            return 0;
        }
        Node now = bent(node);
        if (!now.isAs(node)) {
            loose.keep(live);
            live.put(now);
        }
        return 0;
    }

    private int whyNotBent(Fid fid, Node node) {
        if (fid.tree != LIVE) {
            return 3;
        }
        if (!request.restIsOnes) {
            return 5;
        }
        if (request.textLength > 0) {
            if (node.path == ROOT || !request.textMayBeName()) {
                return 6;
            }
            Node bearer = live.named(node.parent, request);
            if (bearer != null && bearer.path != node.path) {
                return 7;
            }
        }
        if (request.perm != ALL_ONES && ((request.perm ^ node.mode) < 0 || (request.perm & ~MODE_BITS) != 0)) {
            return 8;
        }
        if (request.offset != ALL_ONES && (node.isDirectory() || isAbove(request.offset, MOST_DATA))) {
            return 9;
        }
        return 0;
    }

    private Node bent(Node node) {
        Node now = node;
        if (request.offset != ALL_ONES && request.offset != node.data.length && !isAbove(request.offset, MOST_DATA)) {
            now = node.withData(Arrays.copyOf(node.data, (int) request.offset), time);
        }
        byte[] name = request.textLength > 0 ? request.copyText() : now.name;
        int mode = request.perm != ALL_ONES ? request.perm : now.mode;
        int mtime = request.mtime != ALL_ONES ? request.mtime : now.mtime;
        return new Node(now.path, now.parent, name, mode, now.version, mtime, now.data);
    }

    /** A file as it is at some time; never changed, so that trees may share it. */
    private static final class Node {
        final int path;
        final int parent;
        final byte[] name;
        final int mode;
        final int version;
        final int mtime;
        final byte[] data;

        Node(int path, int parent, byte[] name, int mode, int version, int mtime, byte[] data) {
            this.path = path;
            this.parent = parent;
            this.name = name;
            this.mode = mode;
            this.version = version;
            this.mtime = mtime;
            this.data = data;
        }

        boolean isDirectory() {
            return mode < 0;
        }

        /** CHANGED: of a directory its data is none, and stays so. */
        Node withData(byte[] now, int time) {
            return new Node(path, parent, name, mode, version + 1, time, now);
        }

        int statSize() {
            return STAT_SIZE_WITHOUT_NAME + name.length;
        }

        /** Other data comes with another version, so the data itself need not be looked at. */
        boolean isAs(Node other) {
            return mode == other.mode && version == other.version && mtime == other.mtime && isNamedAs(other);
        }

        private boolean isNamedAs(Node other) {
            int same = 0;
            while (same < name.length && same < other.name.length && name[same] == other.name[same]) {
                same++;
            }
            return same == name.length && same == other.name.length;
        }
    }

    /** The files of a tree, by their paths. */
    private static final class Tree {
        private final Node[] nodes = new Node[MOST_FILES];

        Node at(int path) {
            return path < 0 || path >= MOST_FILES ? null : nodes[path];
        }

        void put(Node node) {
            if (node.path >= 0 && node.path < MOST_FILES) {
                nodes[node.path] = node;
            }
        }

        void drop(int path) {
            if (path >= 0 && path < MOST_FILES) {
                nodes[path] = null;
            }
        }

        void takeOver(Tree other) {
            for (int path = 0; path < MOST_FILES; path++) {
                nodes[path] = other.nodes[path];
            }
        }

        int size() {
            int many = 0;
            for (int path = 0; path < MOST_FILES; path++) {
                many += nodes[path] == null ? 0 : 1;
            }
            return many;
        }

        /** The file of that path, if it is in that directory; the root is in none of them. */
        Node in(int directory, int path) {
            Node node = at(path);
            return node == null || path == ROOT || node.parent != directory ? null : node;
        }

        private Node nextIn(int directory, int behind) {
            for (int path = behind + 1; path < MOST_FILES; path++) {
                Node node = in(directory, path);
                if (node != null) {
                    return node;
                }
            }
            return null;
        }

        /** A directory's files by their paths, each with all that is in it, then the directory: how many. */
        int listInnermostFirst(int[] row) {
            int many = 0;
            int behind = ROOT;
            Node directory = at(ROOT);
            // A file takes one step, a directory two: into it, and out of it.
            for (int step = 0; step < 2 * MOST_FILES && directory != null; step++) {
                Node next = nextIn(directory.path, behind);
                if (next != null && next.isDirectory()) {
                    directory = next;
                    behind = ROOT;
                    continue;
                }
                int done = next == null ? directory.path : next.path;
                if (many < row.length) {
                    row[many] = done;
                    many++;
                }
                if (next == null) {
                    directory = done == ROOT ? null : at(directory.parent);
                }
                behind = done;
            }
            return many;
        }

        int sizeOf(int directory) {
            int many = 0;
            for (int path = 0; path < MOST_FILES; path++) {
                many += in(directory, path) == null ? 0 : 1;
            }
            return many;
        }

        Node named(int directory, Request request) {
            for (int path = 0; path < MOST_FILES; path++) {
                Node node = in(directory, path);
                if (node != null && node.name.length == request.textLength && request.textBegins(node.name)) {
                    return node;
                }
            }
            return null;
        }
    }

    /** The live tree as it was ahead of each loose change: a ring, so that the oldest fall out. */
    private static final class Journal {
        private final Tree[] rows = new Tree[MOST_LOOSE];
        private int next = 0;
        private int many = 0;

        Journal() {
            for (int i = 0; i < MOST_LOOSE; i++) {
                rows[i] = new Tree();
            }
        }

        int size() {
            return many;
        }

        void keep(Tree tree) {
            rows[next].takeOver(tree);
            next = next + 1 < MOST_LOOSE ? next + 1 : 0;
            many = Math.min(many + 1, MOST_LOOSE);
        }

        Tree before(int latest) {
            if (latest < 1 || latest > many) {
                return null;
            }
            return rows[next >= latest ? next - latest : next - latest + MOST_LOOSE];
        }

        void clear() {
            many = 0;
        }
    }

    private static final class Snapshots {
        final int[] scores = new int[MOST_SNAPSHOTS * SCORE_WORDS];
        private final Tree[] trees = new Tree[MOST_SNAPSHOTS];
        private final boolean[] scored = new boolean[MOST_SNAPSHOTS];
        private int many = 0;

        int size() {
            return many;
        }

        int take(Tree live) {
            if (many >= MOST_SNAPSHOTS) {
                return -1;
            }
            Tree tree = new Tree();
            tree.takeOver(live);
            trees[many] = tree;
            many++;
            return many - 1;
        }

        Tree tree(int number) {
            return number < 0 || number >= many ? null : trees[number];
        }

        boolean isScored(int number) {
            return number >= 0 && number < many && scored[number];
        }

        void setScored(int number) {
            if (number >= 0 && number < many) {
                scored[number] = true;
            }
        }

        int scoreByte(int number, int i) {
            if (number < 0 || number >= many || i < 0 || i >= SCORE_SIZE) {
                return -1;
            }
            return scores[number * SCORE_WORDS + i / 4] >>> 24 - 8 * (i % 4) & 255;
        }
    }

    private static final class Fid {
        boolean used = false;
        int number = 0;
        int tree = LIVE;
        int path = ROOT;
        boolean open = false;
        int mode = 0;
        /** How many bytes of a directory it was told, and the path of the last file among them. */
        int told = 0;
        int last = ROOT;

        boolean isOpenForReading() {
            return open && (mode & 3) != 1;
        }

        /** As the manual has it, 16 with lowest bits 0 empties a file, but does not let it be written. */
        boolean isOpenForWriting() {
            return open && (mode & 3) != 0;
        }

        void openAs(int how) {
            open = true;
            mode = how;
            rewind();
        }

        void rewind() {
            told = 0;
            last = ROOT;
        }
    }

    private static final class FidTable {
        private final Fid[] rows = new Fid[MOST_FIDS];

        FidTable() {
            for (int i = 0; i < MOST_FIDS; i++) {
                rows[i] = new Fid();
            }
        }

        Fid find(int number) {
            for (int i = 0; i < MOST_FIDS; i++) {
                if (rows[i].used && rows[i].number == number) {
                    return rows[i];
                }
            }
            return null;
        }

        int size() {
            int many = 0;
            for (int i = 0; i < MOST_FIDS; i++) {
                many += rows[i].used ? 1 : 0;
            }
            return many;
        }

        boolean make(int number, int tree, int path) {
            for (int i = 0; i < MOST_FIDS; i++) {
                Fid fid = rows[i];
                if (!fid.used) {
                    fid.used = true;
                    fid.number = number;
                    fid.tree = tree;
                    fid.path = path;
                    fid.open = false;
                    fid.mode = 0;
                    fid.rewind();
                    return true;
                }
            }
            return false;
        }

        void clear() {
            for (int i = 0; i < MOST_FIDS; i++) {
                rows[i].used = false;
            }
        }
    }

    /** Bytes in a row, up to some number of them; numbers go in with their lowest byte first. */
    private static final class Bytes {
        private final byte[] cells;
        private int length = 0;

        Bytes(int most) {
            cells = new byte[Math.max(0, most)];
        }

        int size() {
            return length;
        }

        int room() {
            return cells.length - length;
        }

        void clear() {
            length = 0;
        }

        int at(int i) {
            return i < 0 || i >= length ? -1 : cells[i] & 255;
        }

        void set(int i, int value, int bytes) {
            for (int k = 0; k < bytes; k++) {
                if (i >= 0 && i < length - k) {
                    cells[i + k] = (byte) (value >> 8 * k);
                }
            }
        }

        void put(long value, int bytes) {
            for (int k = 0; k < bytes; k++) {
                if (length < cells.length) {
                    cells[length] = (byte) (value >> 8 * k);
                    length++;
                }
            }
        }

        void putHighestFirst(int value) {
            put(value >> 24, 1);
            put(value >> 16, 1);
            put(value >> 8, 1);
            put(value, 1);
        }

        void putAll(byte[] from, int start, int many) {
            for (int i = 0; i < many; i++) {
                int k = start + i;
                if (k >= 0 && k < from.length) {
                    put(from[k], 1);
                }
            }
        }

        void putText(byte[] text) {
            put(text.length, 2);
            putAll(text, 0, text.length);
        }

        void putQid(Node node) {
            put(node.isDirectory() ? 128 : 0, 1);
            put(node.version, 4);
            put(node.path, 8);
        }

        void putStat(Node node) {
            put(node.statSize() - 2, 2);
            put(0, 2);
            put(0, 4);
            putQid(node);
            put(node.mode, 4);
            put(node.mtime, 4);
            put(node.mtime, 4);
            put(node.data.length, 8);
            putText(node.name);
            for (int i = 0; i < 3; i++) {
                put(1, 2);
                put(103, 1);
            }
        }
    }

    /** The message on the tape, taken apart; texts stay on the tape, and are told by their place. */
    private static final class Request {
        private final Bytes tape;
        private int size = 0;
        private int at = 0;
        private boolean whole = false;
        private int namesAt = 0;
        int type = 0;
        int tag = 0;
        int fid = 0;
        /** newfid, afid or msize. */
        int other = 0;
        /** How many names (n), or bytes (count). */
        int many = 0;
        int mode = 0;
        /** perm, or the mode that wstat asks for. */
        int perm = 0;
        int mtime = 0;
        /** offset, or the length that wstat asks for. */
        long offset = 0;
        /** The name, version, aname or data. */
        private int textAt = 0;
        int textLength = 0;
        /** Of wstat: all that it may not change is all ones, or empty. */
        boolean restIsOnes = false;

        Request(Bytes tape) {
            this.tape = tape;
        }

        boolean parse(int n) {
            size = n;
            at = 0;
            whole = true;
            int length = number(4);
            type = number(1);
            tag = number(2);
            if (length != n || !whole) {
                return false;
            }
            return parseBody() && whole && at == size;
        }

        private boolean parseBody() {
            fid = type == VERSION || type == AUTH || type == FLUSH ? 0 : number(4);
            switch (type) {
                case VERSION: other = number(4); readText(); return true;
                case AUTH: other = number(4); readText(); readText(); return true;
                case ATTACH: other = number(4); readText(); readText(); return true;
                case FLUSH: other = number(2); return true;
                case WALK: other = number(4); readNames(); return true;
                case OPEN: mode = number(1); return true;
                case CREATE: readText(); perm = number(4); mode = number(1); return true;
                case READ: offset = longNumber(8); many = number(4); return true;
                case WRITE: offset = longNumber(8); readData(); return true;
                case CLUNK:
                case REMOVE:
                case STAT: return true;
                case WSTAT: readStat(); return true;
                default: return false;
            }
        }

        private int number(int bytes) {
            return (int) longNumber(bytes);
        }

        private long longNumber(int bytes) {
            if (bytes > size - at) {
                whole = false;
                return 0;
            }
            long value = 0;
            for (int i = 0; i < bytes; i++) {
                value |= (long) tape.at(at + i) << 8 * i;
            }
            at += bytes;
            return value;
        }

        private void skip(int bytes) {
            if (bytes < 0 || bytes > size - at) {
                whole = false;
            } else {
                at += bytes;
            }
        }

        void readText() {
            textLength = number(2);
            textAt = at;
            skip(textLength);
        }

        private void readNames() {
            many = number(2);
            namesAt = at;
            for (int i = 0; i < many && whole; i++) {
                readText();
            }
        }

        void toFirstName() {
            at = namesAt;
        }

        private void readData() {
            many = number(4);
            textLength = many;
            textAt = at;
            skip(many);
        }

        private void readStat() {
            int bytes = number(2);
            if (bytes != size - at || number(2) != bytes - 2) {
                whole = false;
                return;
            }
            boolean ones = true;
            for (int i = 0; i < TYPE_DEV_QID_SIZE; i++) {
                ones = number(1) == 255 && ones;
            }
            perm = number(4);
            ones = number(4) == ALL_ONES && ones;
            mtime = number(4);
            offset = longNumber(8);
            readText();
            int nameAt = textAt;
            int nameLength = textLength;
            for (int i = 0; i < 3; i++) {
                readText();
                ones = ones && textLength == 0;
            }
            textAt = nameAt;
            textLength = nameLength;
            restIsOnes = ones;
        }

        boolean asksNothing() {
            return textLength == 0 && perm == ALL_ONES && mtime == ALL_ONES && offset == ALL_ONES;
        }

        private int textByte(int i) {
            return i < 0 || i >= textLength ? -1 : tape.at(textAt + i);
        }

        boolean textBegins(byte[] bytes) {
            for (int i = 0; i < bytes.length; i++) {
                if (i >= textLength || tape.at(textAt + i) != (bytes[i] & 255)) {
                    return false;
                }
            }
            return true;
        }

        boolean textIsDotDot() {
            return textLength == 2 && textByte(0) == 46 && textByte(1) == 46;
        }

        boolean textMayBeName() {
            if (textLength < 1 || textLength > MOST_NAME) {
                return false;
            }
            int dots = 0;
            for (int i = 0; i < textLength; i++) {
                int one = textByte(i);
                if (one == 0 || one == 47) {
                    return false;
                }
                dots += one == 46 ? 1 : 0;
            }
            return textLength > 2 || dots < textLength;
        }

        /** The tree that aname asks for; one that is never there if it asks for none. */
        int treeAsked() {
            if (textLength == 0) {
                return LIVE;
            }
            int digit = textByte(1) - 48;
            boolean told = textLength == 2 && textByte(0) == 115 && digit >= 0 && digit <= 9;
            return told ? digit : NONE_SUCH;
        }

        byte[] copyText() {
            byte[] copy = new byte[Math.max(0, textLength)];
            copyTextInto(copy, 0);
            return copy;
        }

        void copyTextInto(byte[] row, int from) {
            for (int i = 0; i < textLength; i++) {
                int k = from + i;
                if (k >= 0 && k < row.length) {
                    row[k] = (byte) tape.at(textAt + i);
                }
            }
        }
    }

    /** SHA-1, of FIPS 180. */
    private static final class Sha {
        final int[] words = new int[SCORE_WORDS];
        private final int[] schedule = new int[80];

        void digest(byte[] bytes, int from, int length) {
            words[0] = 0x67452301;
            words[1] = 0xefcdab89;
            words[2] = 0x98badcfe;
            words[3] = 0x10325476;
            words[4] = 0xc3d2e1f0;
            int chunks = (length + 8) / 64 + 1;
            for (int chunk = 0; chunk < chunks; chunk++) {
                for (int i = 0; i < 16; i++) {
                    schedule[i] = paddedWord(bytes, from, length, chunk * 64 + i * 4);
                }
                if (chunk == chunks - 1) {
                    schedule[15] = length * 8;
                }
                mix();
            }
        }

        private static int paddedWord(byte[] bytes, int from, int length, int at) {
            int word = 0;
            for (int i = at; i < at + 4; i++) {
                int k = from + i;
                int value = i == length ? 128 : 0;
                if (i < length && k >= 0 && k < bytes.length) {
                    value = bytes[k] & 255;
                }
                word = word << 8 | value;
            }
            return word;
        }

        private void mix() {
            for (int i = 16; i < 80; i++) {
                int mixed = schedule[i - 3] ^ schedule[i - 8] ^ schedule[i - 14] ^ schedule[i - 16];
                schedule[i] = mixed << 1 | mixed >>> 31;
            }
            int a = words[0];
            int b = words[1];
            int c = words[2];
            int d = words[3];
            int e = words[4];
            for (int i = 0; i < 80; i++) {
                int next = (a << 5 | a >>> 27) + blend(i, b, c, d) + e + schedule[i];
                e = d;
                d = c;
                c = b << 30 | b >>> 2;
                b = a;
                a = next;
            }
            words[0] += a;
            words[1] += b;
            words[2] += c;
            words[3] += d;
            words[4] += e;
        }

        private static int blend(int i, int b, int c, int d) {
            if (i < 20) {
                return (b & c | ~b & d) + 0x5a827999;
            }
            if (i < 40) {
                return (b ^ c ^ d) + 0x6ed9eba1;
            }
            if (i < 60) {
                return (b & c | b & d | c & d) + 0x8f1bbcdc;
            }
            return (b ^ c ^ d) + 0xca62c1d6;
        }
    }

    /** The blocks that were put away. Nothing reads them back, so only scores and sizes are held. */
    private static final class Store {
        int size = 0;
        int bytes = 0;
        private final int[] scores = new int[MOST_BLOCKS * SCORE_WORDS];

        private boolean holds(int[] score) {
            for (int block = 0; block < size; block++) {
                int same = 0;
                for (int i = 0; i < SCORE_WORDS && scores[block * SCORE_WORDS + i] == score[i]; i++) {
                    same++;
                }
                if (same == SCORE_WORDS) {
                    return true;
                }
            }
            return false;
        }

        /** False if there is no room for it. */
        boolean put(int[] score, int length) {
            if (holds(score)) {
                return true;
            }
            if (size >= MOST_BLOCKS) {
                return false;
            }
            for (int i = 0; i < SCORE_WORDS; i++) {
                scores[size * SCORE_WORDS + i] = score[i];
            }
            size++;
            bytes += length;
            return true;
        }

        void goBackTo(int sizeThen, int bytesThen) {
            size = sizeThen;
            bytes = bytesThen;
        }
    }

    /** Makes the blocks of a tree and their scores. */
    private static final class Archiver {
        final Store store = new Store();
        private final Sha sha = new Sha();
        private final Bytes block = new Bytes(MOST_FILES * (STAT_SIZE_WITHOUT_NAME + MOST_NAME + SCORE_SIZE));
        private final int[] lastScores = new int[MOST_FILES * SCORE_WORDS];
        private final int[] order = new int[MOST_FILES];
        private boolean keeps = false;
        private boolean full = false;

        int putAway(Tree tree) {
            int sizeThen = store.size;
            int bytesThen = store.bytes;
            keeps = true;
            full = false;
            goOver(tree);
            if (full) {
                store.goBackTo(sizeThen, bytesThen);
                return -2;
            }
            return store.size - sizeThen;
        }

        void scoreOnly(Tree tree) {
            keeps = false;
            goOver(tree);
        }

        void copyRootScore(int[] row, int from) {
            for (int i = 0; i < SCORE_WORDS; i++) {
                int k = from + i;
                if (k >= 0 && k < row.length) {
                    row[k] = lastScores[ROOT * SCORE_WORDS + i];
                }
            }
        }

        private void goOver(Tree tree) {
            int many = tree.listInnermostFirst(order);
            for (int i = 0; i < many && i < order.length; i++) {
                int path = order[i];
                Node node = tree.at(path);
                if (node == null) {
                    continue;
                }
                block.clear();
                if (node.isDirectory()) {
                    fillFromDirectory(tree, path);
                } else {
                    fillFromData(node.data);
                }
                offer(block.cells, 0, block.size());
                for (int word = 0; word < SCORE_WORDS; word++) {
                    lastScores[path * SCORE_WORDS + word] = sha.words[word];
                }
            }
        }

        private void fillFromDirectory(Tree tree, int directory) {
            for (int path = 0; path < MOST_FILES; path++) {
                Node node = tree.in(directory, path);
                if (node != null) {
                    block.putStat(node);
                    for (int i = 0; i < SCORE_WORDS; i++) {
                        block.putHighestFirst(lastScores[path * SCORE_WORDS + i]);
                    }
                }
            }
        }

        private void fillFromData(byte[] data) {
            for (int from = 0; from < data.length; from += BLOCK_SIZE) {
                offer(data, from, Math.min(BLOCK_SIZE, data.length - from));
                for (int i = 0; i < SCORE_WORDS; i++) {
                    block.putHighestFirst(sha.words[i]);
                }
            }
        }

        private void offer(byte[] bytes, int from, int length) {
            sha.digest(bytes, from, length);
            if (keeps && !store.put(sha.words, length)) {
                full = true;
            }
        }
    }
}
