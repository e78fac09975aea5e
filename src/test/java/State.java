import java.util.ArrayList;
import java.util.LinkedHashMap;
import java.util.List;
import java.util.Map;

/** All that a server's calls tell of it without a message; two of these show what lay between them changed. */
final class State {
    private static final int[] FAR_NUMBERS = {77, 99, 999, Integer.MIN_VALUE, Integer.MIN_VALUE + 1,
        Integer.MAX_VALUE - 1, Integer.MAX_VALUE};
    private final Map<String, Integer> told = new LinkedHashMap<>();

    State(EpochServer server) {
        for (int what = 0; what < 13; what++) {
            told.put("count(" + what + ")", server.count(what));
        }
        for (int i = 0; i < server.count(10); i++) {
            told.put("answer(" + i + ")", server.answer(i));
        }
        for (int i = 0; i < server.count(9); i++) {
            int was = server.bend(i, 0);
            server.bend(i, was);
            told.put("tape(" + i + ")", was);
        }
        for (int tree = -1; tree < 6; tree++) {
            tellTree(server, tree);
        }
        for (int number = -3; number < 40; number++) {
            tellFid(server, number);
        }
        for (int number : FAR_NUMBERS) {
            tellFid(server, number);
        }
    }

    private void tellTree(EpochServer server, int tree) {
        for (int path = 0; path < 61; path++) {
            for (int what = 0; what < 6; what++) {
                told.put("file(" + tree + ", " + path + ", " + what + ")", server.file(tree, path, what));
            }
        }
        for (int i = 0; i < 20; i++) {
            told.put("score(" + tree + ", " + i + ")", server.score(tree, i));
        }
    }

    private void tellFid(EpochServer server, int number) {
        for (int what = 0; what < 5; what++) {
            told.put("fid(" + number + ", " + what + ")", server.fid(number, what));
        }
    }

    /** What is not the same in both, but for the calls that begin with one of these. */
    List<String> unlike(State other, List<String> but) {
        List<String> unlike = new ArrayList<>();
        Map<String, Integer> both = new LinkedHashMap<>(told);
        both.putAll(other.told);
        for (String call : both.keySet()) {
            Integer here = told.get(call);
            Integer there = other.told.get(call);
            boolean same = here != null && here.equals(there);
            if (!same && but.stream().noneMatch(call::startsWith)) {
                unlike.add(call + ": " + here + ", then " + there);
            }
        }
        return unlike;
    }
}
