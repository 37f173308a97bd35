import java.util.ArrayList;
import java.util.Collections;
import java.util.List;
import java.util.TreeSet;

/**
 * The document's answers worked out another way than the class does: by looking through the list of events for the
 * latest one that matters. Apart from isInRange, it takes right arguments alone, and order numbers that were not told.
 */
final class Model {
    /** Of each kind the least and the most of a, b and c. */
    private static final int[][] RANGES = {
        {0, 19, 0, 5, 0, 9}, {0, 19, 0, 9, 0, 0}, {0, 19, 0, 0, 0, 0}, {0, 9, 1, 9, 0, 5}, {0, 19, 0, 9, 0, 0},
        {0, 3, -10000, 10000, 0, 0}, {0, 9, 0, 9, 1, 99},
    };

    final List<int[]> events = new ArrayList<>();
    int refused = 0;

    static boolean isInRange(int[] e) {
        boolean right = e[0] >= 0 && e[0] < RANGES.length && !(e[0] == 5 && e[2] == 0);
        for (int i = 0; right && i < 3; i++) {
            right = e[i + 1] >= RANGES[e[0]][2 * i] && e[i + 1] <= RANGES[e[0]][2 * i + 1];
        }
        return right;
    }

    boolean take(int... event) {
        boolean possible = isPossible(event);
        if (possible) {
            events.add(event);
        } else {
            refused++;
        }
        return possible;
    }

    private boolean isPossible(int[] e) {
        int all = events.size();
        switch (e[0]) {
            case 0: return where(e[1], all) < 0;
            case 1: return where(e[1], all) >= 0;
            case 2: return where(e[1], all) >= 0 && (holder(e[1]) < 0 || isFull(holder(e[1])));
            case 3: return pieces(e[1]) == 0;
            case 4: return where(e[1], all) >= 0 && holder(e[1]) < 0 && pieces(e[2]) > 0
                && goodOf(e[1]) == goodWanted(e[2]) && !isFull(e[2]);
            case 6: return e[1] != e[2];
            default: return true;
        }
    }

    int where(int unit, int behind) {
        for (int i = behind - 1; i >= 0; i--) {
            int[] e = events.get(i);
            if (e[0] <= 2 && e[1] == unit) {
                return e[0] == 0 ? e[3] : e[0] == 1 ? e[2] : -1;
            }
        }
        return -1;
    }

    private int goodOf(int unit) {
        int good = -1;
        for (int[] e : events) {
            good = e[0] == 0 && e[1] == unit ? e[2] : good;
        }
        return good;
    }

    /** The order that the unit is given to now, or -1. */
    private int holder(int unit) {
        int holder = -1;
        for (int[] e : events) {
            if (e[0] == 4 && e[1] == unit) {
                holder = e[2];
            } else if (e[0] == 2 && e[1] == unit) {
                holder = -1;
            }
        }
        return holder;
    }

    int pieces(int order) {
        return events.stream().filter(e -> e[0] == 3 && e[1] == order).mapToInt(e -> e[2]).sum();
    }

    int goodWanted(int order) {
        return events.stream().filter(e -> e[0] == 3 && e[1] == order).mapToInt(e -> e[3]).sum();
    }

    int got(int order) {
        return (int) events.stream().filter(e -> e[0] == 4 && e[2] == order).count();
    }

    boolean isFull(int order) {
        return pieces(order) > 0 && got(order) >= pieces(order);
    }

    int stock(int place, int good) {
        int units = 0;
        for (int unit = 0; unit < 20; unit++) {
            int at = where(unit, events.size());
            units += at >= 0 && (place < 0 || at == place) && (good < 0 || goodOf(unit) == good) ? 1 : 0;
        }
        return units;
    }

    int free(int good) {
        int units = 0;
        for (int unit = 0; unit < 20; unit++) {
            units += where(unit, events.size()) >= 0 && holder(unit) < 0 && goodOf(unit) == good ? 1 : 0;
        }
        return units;
    }

    /** For each good the orders that lack least are filled first, which fills the most. */
    int promise(int set) {
        if (Integer.bitCount(set) > 6) {
            return -1;
        }
        int filled = 0;
        for (int good = 0; good < 6; good++) {
            List<Integer> lacking = new ArrayList<>();
            for (int order = 0; order < 10; order++) {
                if ((set >> order & 1) == 1 && !isFull(order) && goodWanted(order) == good) {
                    lacking.add(pieces(order) - got(order));
                }
            }
            Collections.sort(lacking);
            int left = free(good);
            for (int pieces : lacking) {
                left -= pieces;
                filled += left >= 0 ? 1 : 0;
            }
        }
        return filled;
    }

    int link(int a, int b) {
        int seconds = 0;
        for (int[] e : events) {
            if (e[0] == 6 && (e[1] == a && e[2] == b || e[1] == b && e[2] == a)) {
                seconds = e[3];
            }
        }
        return seconds;
    }

    /** Rounds over all links until ten rounds are over: no shortest way has more than nine links. */
    int way(int from, int to) {
        int[] best = new int[10];
        java.util.Arrays.fill(best, 999999);
        best[from] = 0;
        int[][] links = new int[10][10];
        for (int a = 0; a < 10; a++) {
            for (int b = 0; b < 10; b++) {
                links[a][b] = link(a, b);
            }
        }
        for (int round = 0; round < 10; round++) {
            for (int a = 0; a < 10; a++) {
                for (int b = 0; b < 10; b++) {
                    if (links[a][b] > 0 && best[a] + links[a][b] < best[b]) {
                        best[b] = best[a] + links[a][b];
                    }
                }
            }
        }
        return best[to] >= 999999 ? -1 : best[to];
    }

    int walk(int order, int from) {
        TreeSet<Integer> places = new TreeSet<>();
        for (int unit = 0; unit < 20; unit++) {
            int at = where(unit, events.size());
            if (at >= 0 && holder(unit) == order) {
                places.add(at);
            }
        }
        return places.size() > 4 ? -2 : walkOver(new ArrayList<>(places), from);
    }

    private int walkOver(List<Integer> places, int from) {
        int best = places.isEmpty() ? 0 : -1;
        for (int place : places) {
            List<Integer> others = new ArrayList<>(places);
            others.remove((Integer) place);
            int first = way(from, place);
            int rest = walkOver(others, place);
            if (first >= 0 && rest >= 0 && (best < 0 || first + rest < best)) {
                best = first + rest;
            }
        }
        return best;
    }

    int money(int owner, int behind) {
        return events.subList(0, behind).stream().filter(e -> e[0] == 5 && e[1] == owner).mapToInt(e -> e[2]).sum();
    }

    /** The events that would be refused without event i. */
    List<Integer> refusedWithout(int i) {
        Model other = new Model();
        List<Integer> places = new ArrayList<>();
        for (int k = 0; k < events.size(); k++) {
            if (k != i && !other.take(events.get(k))) {
                places.add(k);
            }
        }
        return places;
    }

    int count(int what) {
        int links = 0;
        int told = 0;
        int full = 0;
        for (int a = 0; a < 10; a++) {
            for (int b = 0; b < a; b++) {
                links += link(a, b) > 0 ? 1 : 0;
            }
            told += pieces(a) > 0 ? 1 : 0;
            full += isFull(a) ? 1 : 0;
        }
        int[] answers = {events.size(), refused, stock(-1, -1), told, full, links};
        return what >= 0 && what < answers.length ? answers[what] : -1;
    }
}
