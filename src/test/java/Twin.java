import java.nio.ByteBuffer;
import java.util.Arrays;
import java.util.List;

/** A server and the Oracle, given the same calls; each answer is held against the Oracle's. */
final class Twin {
    final Bench bench = new Bench();
    final Oracle oracle = new Oracle();
    private final String run;
    int step = 0;

    Twin(String run) {
        this.run = run;
    }

    void same(String call, int want, int got) {
        Bench.due(run + ", step " + step + ", " + call, want, got);
    }

    void feed(int[] five) {
        same("feed", oracle.feed(five), bench.server.feed(five[0], five[1], five[2], five[3], five[4]));
    }

    void message(String told, int n) {
        same("message " + told, oracle.message(n), bench.server.message(n));
    }

    void send(byte[] message) {
        byte[] padded = Arrays.copyOf(message, (message.length + 19) / 20 * 20);
        for (int at = 0; at < padded.length; at += 20) {
            int[] five = new int[5];
            ByteBuffer.wrap(padded, at, 20).asIntBuffer().get(five);
            feed(five);
        }
        message(Arrays.toString(message), message.length);
    }

    void snap() {
        same("snap", oracle.snap(), bench.server.snap());
    }

    int archive(int k) {
        int came = oracle.archive(k);
        same("archive " + k, came, bench.server.archive(k));
        same("count 6", oracle.count(6), bench.server.count(6));
        same("count 7", oracle.count(7), bench.server.count(7));
        bench.storeIs(List.copyOf(oracle.store.keySet()));
        return came;
    }

    void scores(int k) {
        for (int i = -1; i < 21; i++) {
            same("score " + k + " " + i, oracle.score(k, i), bench.server.score(k, i));
        }
    }

    void crash(int n) {
        same("crash " + n, oracle.crash(n), bench.server.crash(n));
    }
}
