import java.util.ArrayList;
import java.util.HashMap;
import java.util.List;
import java.util.Map;
import java.util.Set;
import java.util.TreeSet;

/** The document once more, over sets and lists, to hold the class against. */
final class Model {
    private record Request(int owner, int start, int length, int type) {
        boolean covers(int at) {
            return at >= start && at < start + length;
        }
    }

    /** For each byte, the locks on it by owner. */
    private final List<Map<Integer, Integer>> bytes = new ArrayList<>();
    /** In the order in which their owners began to wait. */
    private final List<Request> waiting = new ArrayList<>();

    Model() {
        for (int at = 0; at < 40; at++) {
            bytes.add(new HashMap<>());
        }
    }

    int lock(int owner, int start, int length, int type) {
        int fault = fault(owner, start, length, type, 0);
        if (fault != 0) {
            return fault;
        }
        Request request = new Request(owner, start, length, type);
        if (find(owner) != null) {
            return -4;
        }
        if (type != 0 && !against(request).isEmpty()) {
            return -5;
        }
        grant(request);
        return settle();
    }

    int await(int owner, int start, int length, int type) {
        int fault = fault(owner, start, length, type, 1);
        if (fault != 0) {
            return fault;
        }
        Request request = new Request(owner, start, length, type);
        if (find(owner) != null) {
            return -4;
        }
        Set<Integer> against = against(request);
        if (against.isEmpty()) {
            grant(request);
            settle();
            return 0;
        }
        for (int other : against) {
            if (reaches(other, owner, new TreeSet<>())) {
                return -5;
            }
        }
        waiting.add(request);
        return 1;
    }

    int cancel(int owner) {
        if (owner < 0 || owner > 4) {
            return -1;
        }
        return waiting.remove(find(owner)) ? 0 : -2;
    }

    int close(int owner) {
        if (owner < 0 || owner > 4) {
            return -1;
        }
        int had = 0;
        for (Map<Integer, Integer> locks : bytes) {
            if (locks.remove(owner) != null) {
                had++;
            }
        }
        waiting.remove(find(owner));
        settle();
        return had;
    }

    int lockAt(int owner, int at) {
        if (owner < 0 || owner > 4) {
            return -1;
        }
        return at < 0 || at > 39 ? -2 : bytes.get(at).getOrDefault(owner, 0);
    }

    int holders(int at) {
        return at < 0 || at > 39 ? -1 : sum(bytes.get(at).keySet());
    }

    int obstacle(int owner, int start, int length, int type) {
        int fault = fault(owner, start, length, type, 1);
        if (fault != 0) {
            return fault;
        }
        for (int at = start; at < start + length; at++) {
            if (!against(new Request(owner, at, 1, type)).isEmpty()) {
                return at;
            }
        }
        return -4;
    }

    int wouldCircle(int owner, int start, int length, int type) {
        Model copy = new Model();
        for (int at = 0; at < 40; at++) {
            copy.bytes.get(at).putAll(bytes.get(at));
        }
        copy.waiting.addAll(waiting);
        return copy.await(owner, start, length, type) == -5 ? 1 : 0;
    }

    int waiting(int owner) {
        if (owner < 0 || owner > 4) {
            return -1;
        }
        return find(owner) == null ? 0 : 1;
    }

    int waitsFor(int owner) {
        if (owner < 0 || owner > 4) {
            return -1;
        }
        return find(owner) == null ? 0 : sum(against(find(owner)));
    }

    int ahead(int owner) {
        if (owner < 0 || owner > 4) {
            return -1;
        }
        return find(owner) == null ? -2 : waiting.indexOf(find(owner));
    }

    int pieces(int owner) {
        return owner < 0 || owner > 4 ? -1 : list(owner).size();
    }

    int pieceStart(int owner, int piece) {
        return ofPiece(owner, piece, 0);
    }

    int pieceEnd(int owner, int piece) {
        return ofPiece(owner, piece, 1);
    }

    int pieceType(int owner, int piece) {
        return ofPiece(owner, piece, 2);
    }

    int count(int owner, int type) {
        if (owner < 0 || owner > 4) {
            return -1;
        }
        if (type < 0 || type > 2) {
            return -2;
        }
        return (int) bytes.stream().filter(locks -> locks.getOrDefault(owner, 0) == type).count();
    }

    int free() {
        return (int) bytes.stream().filter(Map::isEmpty).count();
    }

    /** -1, -2 or -3, or 0 if the arguments are good. */
    static int fault(int owner, int start, int length, int type, int leastType) {
        if (owner < 0 || owner > 4) {
            return -1;
        }
        if (length < 1 || length > 40 || start < 0 || (long) start + length > 40) {
            return -2;
        }
        return type < leastType || type > 2 ? -3 : 0;
    }

    private Request find(int owner) {
        for (Request request : waiting) {
            if (request.owner() == owner) {
                return request;
            }
        }
        return null;
    }

    private Set<Integer> against(Request request) {
        Set<Integer> found = new TreeSet<>();
        for (int at = 0; at < 40; at++) {
            for (Map.Entry<Integer, Integer> lock : bytes.get(at).entrySet()) {
                boolean writes = request.type() == 2 || lock.getValue() == 2;
                if (request.covers(at) && lock.getKey() != request.owner() && writes) {
                    found.add(lock.getKey());
                }
            }
        }
        return found;
    }

    private boolean reaches(int from, int goal, Set<Integer> seen) {
        if (from == goal) {
            return true;
        }
        if (find(from) == null || !seen.add(from)) {
            return false;
        }
        for (int next : against(find(from))) {
            if (reaches(next, goal, seen)) {
                return true;
            }
        }
        return false;
    }

    private void grant(Request request) {
        for (int at = 0; at < 40; at++) {
            if (request.covers(at)) {
                bytes.get(at).remove(request.owner());
                if (request.type() != 0) {
                    bytes.get(at).put(request.owner(), request.type());
                }
            }
        }
    }

    private int settle() {
        for (Request request : waiting) {
            if (against(request).isEmpty()) {
                grant(request);
                waiting.remove(request);
                return 1 + settle();
            }
        }
        return 0;
    }

    private static int sum(Set<Integer> owners) {
        return owners.stream().mapToInt(owner -> 1 << owner).sum();
    }

    private List<int[]> list(int owner) {
        List<int[]> found = new ArrayList<>();
        int[] last = {-1, -1, 0};
        for (int at = 0; at < 40; at++) {
            int type = lockAt(owner, at);
            if (type != 0 && type == last[2] && last[1] == at - 1) {
                last[1] = at;
            } else if (type != 0) {
                last = new int[] {at, at, type};
                found.add(last);
            }
        }
        return found;
    }

    private int ofPiece(int owner, int piece, int what) {
        if (owner < 0 || owner > 4) {
            return -1;
        }
        List<int[]> found = list(owner);
        return piece < 0 || piece >= found.size() ? -2 : found.get(piece)[what];
    }
}
