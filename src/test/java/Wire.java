import java.io.ByteArrayOutputStream;
import java.nio.charset.StandardCharsets;

/** Builds the bytes of messages, lowest byte first. */
final class Wire {
    static final int NOFID = -1;
    private final ByteArrayOutputStream out = new ByteArrayOutputStream();

    static Wire of(int type, int tag) {
        return new Wire().n4(0).n1(type).n2(tag);
    }

    Wire n1(int v) {
        out.write(v);
        return this;
    }

    Wire n2(int v) {
        return n1(v).n1(v >> 8);
    }

    Wire n4(int v) {
        return n2(v).n2(v >> 16);
    }

    Wire n8(long v) {
        return n4((int) v).n4((int) (v >> 32));
    }

    Wire raw(byte[] bytes) {
        out.write(bytes, 0, bytes.length);
        return this;
    }

    Wire s(String text) {
        return s(text.getBytes(StandardCharsets.ISO_8859_1));
    }

    Wire s(byte[] bytes) {
        return n2(bytes.length).raw(bytes);
    }

    /** As it stands, without a look at its size field. */
    byte[] bytes() {
        return out.toByteArray();
    }

    /** With the right size in front. */
    byte[] sized() {
        byte[] bytes = out.toByteArray();
        for (int i = 0; i < 4; i++) {
            bytes[i] = (byte) (bytes.length >> 8 * i);
        }
        return bytes;
    }

    static byte[] version(int msize, String version) {
        return of(100, 0xffff).n4(msize).s(version).sized();
    }

    static byte[] auth(int afid, String uname, String aname) {
        return of(102, 1).n4(afid).s(uname).s(aname).sized();
    }

    static byte[] attach(int fid, int afid, String uname, String aname) {
        return of(104, 1).n4(fid).n4(afid).s(uname).s(aname).sized();
    }

    static byte[] flush(int oldtag) {
        return of(108, 2).n2(oldtag).sized();
    }

    static byte[] walk(int fid, int newfid, String... names) {
        Wire wire = of(110, 1).n4(fid).n4(newfid).n2(names.length);
        for (String name : names) {
            wire.s(name);
        }
        return wire.sized();
    }

    static byte[] open(int fid, int mode) {
        return of(112, 1).n4(fid).n1(mode).sized();
    }

    static byte[] create(int fid, String name, int perm, int mode) {
        return of(114, 1).n4(fid).s(name).n4(perm).n1(mode).sized();
    }

    static byte[] read(int fid, long offset, int count) {
        return of(116, 1).n4(fid).n8(offset).n4(count).sized();
    }

    static byte[] write(int fid, long offset, byte[] data) {
        return of(118, 1).n4(fid).n8(offset).n4(data.length).raw(data).sized();
    }

    static byte[] write(int fid, long offset, String data) {
        return write(fid, offset, data.getBytes(StandardCharsets.ISO_8859_1));
    }

    static byte[] clunk(int fid) {
        return of(120, 1).n4(fid).sized();
    }

    static byte[] remove(int fid) {
        return of(122, 1).n4(fid).sized();
    }

    static byte[] stat(int fid) {
        return of(124, 1).n4(fid).sized();
    }

    static byte[] wstat(int fid, byte[] stat) {
        return of(126, 1).n4(fid).n2(stat.length).raw(stat).sized();
    }

    /** wstat that leaves all but these as they are: "" and -1 are the values that change nothing. */
    static byte[] wstat(int fid, String name, int mode, int mtime, long length) {
        return wstat(fid, statOf(ones(19), mode, -1, mtime, length, name, "", "", ""));
    }

    static byte[] sync(int fid) {
        return wstat(fid, "", -1, -1, -1);
    }

    static byte[] ones(int many) {
        byte[] ones = new byte[many];
        java.util.Arrays.fill(ones, (byte) 255);
        return ones;
    }

    /** typeDevQid: the first 19 bytes behind the STAT's own size. */
    static byte[] statOf(byte[] typeDevQid, int mode, int atime, int mtime, long length, String... texts) {
        Wire body = new Wire().raw(typeDevQid).n4(mode).n4(atime).n4(mtime).n8(length);
        for (String text : texts) {
            body.s(text);
        }
        byte[] bytes = body.bytes();
        return new Wire().n2(bytes.length).raw(bytes).bytes();
    }

    /** The STAT that a file's is due to be. */
    static byte[] statOfFile(int path, int version, int mode, int mtime, int length, String name) {
        byte[] typeDevQid = new Wire().n2(0).n4(0).raw(qid(mode < 0, version, path)).bytes();
        return statOf(typeDevQid, mode, mtime, mtime, length, name, "g", "g", "g");
    }

    static byte[] qid(boolean directory, int version, int path) {
        return new Wire().n1(directory ? 128 : 0).n4(version).n8(path).bytes();
    }
}
