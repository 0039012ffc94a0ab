import java.util.ArrayList;
import java.util.HashMap;
import java.util.List;
import java.util.Map;

/** The document told once more, as plainly as it can be: what StageLines answers is compared with this. */
final class PlainStage {
    static final int UNKNOWN = -1, OUTSIDE = -2, STATE = -3, FULL = -4, NO = -5, NONE = -6;

    record Move(int bar, int time, int height, int pace) { }

    /** Never changed once it is made, but by the calls below on the one that stands. */
    private static final class Things {
        final int[] home = new int[10];
        final int[] drop = new int[10];
        final int[] reach = new int[10];
        int sway = 20;
        final List<List<List<Integer>>> piles = new ArrayList<>();
        final List<Move> moves = new ArrayList<>();

        Things() {
            for (int b = 0; b < 10; b++) {
                home[b] = 60;
                piles.add(new ArrayList<>(List.of(new ArrayList<>(), new ArrayList<>())));
            }
        }

        Things copy() {
            Things c = new Things();
            for (int b = 0; b < 10; b++) {
                c.home[b] = home[b];
                c.drop[b] = drop[b];
                c.reach[b] = reach[b];
                c.piles.get(b).get(0).addAll(piles.get(b).get(0));
                c.piles.get(b).get(1).addAll(piles.get(b).get(1));
            }
            c.sway = sway;
            c.moves.addAll(moves);
            return c;
        }
    }

    private Things now = new Things();
    private final Things[] images = new Things[2];

    int set(int bar, int what, int n) {
        if (bar < 0 || bar > 9) return UNKNOWN;
        if (what < 0 || what > 3 || n < 0) return OUTSIDE;
        if (n > new int[] {60, 40, 3, 100}[what]) return OUTSIDE;
        int was;
        if (what == 0) { was = now.home[bar]; now.home[bar] = n; }
        else if (what == 1) { was = now.drop[bar]; now.drop[bar] = n; }
        else if (what == 2) { was = now.reach[bar]; now.reach[bar] = n; }
        else { was = now.sway; now.sway = n; }
        return was;
    }

    int load(int bar, int side, int weight) {
        if (bar < 0 || bar > 9) return UNKNOWN;
        if (side < 0 || side > 1 || weight < 1 || weight > 50) return OUTSIDE;
        List<Integer> pile = now.piles.get(bar).get(side);
        if (pile.size() == 6) return FULL;
        pile.add(weight);
        return pile.size();
    }

    int take(int bar, int side, int k) {
        if (bar < 0 || bar > 9) return UNKNOWN;
        if (side < 0 || side > 1) return OUTSIDE;
        List<Integer> pile = now.piles.get(bar).get(side);
        if (k < 0 || k >= pile.size()) return NO;
        return pile.remove(k);
    }

    private int total(int bar, int side) {
        return now.piles.get(bar).get(side).stream().mapToInt(Integer::intValue).sum();
    }

    private boolean even(int bar) {
        return Math.abs(total(bar, 0) - total(bar, 1)) <= now.sway;
    }

    int bar(int bar, int what) {
        if (bar < 0 || bar > 9) return UNKNOWN;
        if (what == 0) return now.home[bar];
        if (what == 1) return now.drop[bar];
        if (what == 2) return now.reach[bar];
        if (what == 3 || what == 4) return now.piles.get(bar).get(what - 3).size();
        if (what == 5 || what == 6) return total(bar, what - 5);
        if (what == 7) return even(bar) ? 1 : 0;
        if (what == 8) return (int) now.moves.stream().filter(m -> m.bar == bar).count();
        if (what < 10 || what > 25 || what % 10 > 5) return OUTSIDE;
        List<Integer> pile = now.piles.get(bar).get(what / 10 - 1);
        return what % 10 < pile.size() ? pile.get(what % 10) : NONE;
    }

    /** The orders of all that is left, counted; they depend on what is left alone, so each set is counted once. */
    private long orders(int bar, List<Integer> left, Map<List<Integer>, Long> known) {
        int apart = total(bar, 0) - total(bar, 1);
        for (int thing : left) {
            int weight = now.piles.get(bar).get(thing / 10).get(thing % 10);
            apart -= thing < 10 ? weight : -weight;
        }
        if (Math.abs(apart) > now.sway) return 0;
        if (left.isEmpty()) return 1;
        Long had = known.get(left);
        if (had != null) return had;
        long sum = 0;
        for (int i = 0; i < left.size(); i++) {
            List<Integer> rest = new ArrayList<>(left);
            rest.remove(i);
            sum += orders(bar, rest, known);
        }
        known.put(left, sum);
        return sum;
    }

    private List<Integer> things(int bar) {
        List<Integer> all = new ArrayList<>();
        for (int side = 0; side < 2; side++) {
            for (int k = 0; k < now.piles.get(bar).get(side).size(); k++) {
                all.add(10 * side + k);
            }
        }
        return all;
    }

    int loading(int bar, int k) {
        if (bar < 0 || bar > 9) return UNKNOWN;
        if (k < -1) return OUTSIDE;
        Map<List<Integer>, Long> known = new HashMap<>();
        List<Integer> left = things(bar);
        if (orders(bar, left, known) == 0) return NONE;
        if (k == -1) return left.size();
        List<Integer> first = new ArrayList<>();
        while (!left.isEmpty()) {
            for (int i = 0; i < left.size(); i++) {
                List<Integer> rest = new ArrayList<>(left);
                int thing = rest.remove(i);
                if (orders(bar, rest, known) > 0) {
                    first.add(thing);
                    left = rest;
                    break;
                }
            }
        }
        return k < first.size() ? first.get(k) : NONE;
    }

    int loadings(int bar) {
        if (bar < 0 || bar > 9) return UNKNOWN;
        return Math.toIntExact(orders(bar, things(bar), new HashMap<>()));
    }

    private boolean taken(int bar, int time, Move but) {
        return now.moves.stream().anyMatch(m -> m != but && m.bar == bar && m.time == time);
    }

    int move(int bar, int time, int height, int pace) {
        if (bar < 0 || bar > 9) return UNKNOWN;
        if (time < 0 || time > 200 || height < 0 || height > 60 || pace < 1 || pace > 5) return OUTSIDE;
        if (taken(bar, time, null)) return NO;
        if (now.moves.size() == 10) return FULL;
        now.moves.add(new Move(bar, time, height, pace));
        return now.moves.size() - 1;
    }

    int drop(int move) {
        if (move < 0 || move >= now.moves.size()) return UNKNOWN;
        now.moves.remove(move);
        return now.moves.size();
    }

    int shift(int move, int by) {
        if (move < 0 || move >= now.moves.size()) return UNKNOWN;
        Move m = now.moves.get(move);
        long time = (long) m.time + by;
        if (time < 0 || time > 200) return OUTSIDE;
        if (taken(m.bar, (int) time, m)) return NO;
        now.moves.set(move, new Move(m.bar, (int) time, m.height, m.pace));
        return (int) time;
    }

    /** One TIME behind the other from 0 on, just as the document tells it. */
    private int heightAt(int bar, int time) {
        int high = now.home[bar];
        for (int t = 1; t <= time; t++) {
            Move last = null;
            for (Move m : now.moves) {
                if (m.bar == bar && m.time <= t - 1 && (last == null || m.time > last.time)) last = m;
            }
            if (last == null) continue;
            int far = last.height - high;
            if (Math.abs(far) <= last.pace) high = last.height;
            else high += far > 0 ? last.pace : -last.pace;
        }
        return high;
    }

    private Move cutter(Move one) {
        Move first = null;
        for (int t = one.time; t <= 300 && first == null; t++) {
            if (heightAt(one.bar, t) == one.height) return null;
            for (Move m : now.moves) {
                if (m.bar == one.bar && m.time > one.time && m.time == t) first = m;
            }
        }
        return first;
    }

    private int end(Move one) {
        Move by = cutter(one);
        if (by != null) return by.time;
        int t = one.time;
        while (heightAt(one.bar, t) != one.height) t++;
        return t;
    }

    int told(int move, int what) {
        if (move < 0 || move >= now.moves.size()) return UNKNOWN;
        Move m = now.moves.get(move);
        return switch (what) {
            case 0 -> m.bar;
            case 1 -> m.time;
            case 2 -> m.height;
            case 3 -> m.pace;
            case 4 -> end(m);
            case 5 -> heightAt(m.bar, m.time);
            case 6 -> heightAt(m.bar, end(m));
            case 7 -> cutter(m) != null ? 1 : 0;
            case 8 -> crew().getOrDefault(move, NONE);
            default -> OUTSIDE;
        };
    }

    int height(int bar, int time) {
        if (bar < 0 || bar > 9) return UNKNOWN;
        if (time < 0 || time > 300) return OUTSIDE;
        return heightAt(bar, time);
    }

    private boolean near(int one, int other) {
        return Math.abs(one - other) <= now.reach[one] + now.reach[other];
    }

    /** By the stretches from one whole HEIGHT to the next: those that both hang in. */
    private boolean strikeAt(int one, int other, int oneHeight, int otherHeight) {
        if (!near(one, other) || now.drop[one] == 0 || now.drop[other] == 0) return false;
        for (int h = -40; h < 60; h++) {
            boolean inOne = h >= oneHeight - now.drop[one] && h + 1 <= oneHeight;
            boolean inOther = h >= otherHeight - now.drop[other] && h + 1 <= otherHeight;
            if (inOne && inOther) return true;
        }
        return false;
    }

    int strike(int one, int other, int time) {
        if (one < 0 || one > 9 || other < 0 || other > 9) return UNKNOWN;
        if (one == other || time < 0 || time > 300) return OUTSIDE;
        return strikeAt(one, other, heightAt(one, time), heightAt(other, time)) ? 1 : 0;
    }

    int clash(int from, int what) {
        if (from < 0 || from > 300 || what < 0 || what > 2) return OUTSIDE;
        int[] heights = new int[10];
        for (int t = from; t <= 300; t++) {
            for (int b = 0; b < 10; b++) {
                heights[b] = heightAt(b, t);
            }
            for (int one = 0; one < 10; one++) {
                for (int other = one + 1; other < 10; other++) {
                    if (strikeAt(one, other, heights[one], heights[other])) return new int[] {t, one, other}[what];
                }
            }
        }
        return NONE;
    }

    int often(int one, int other) {
        if (one < 0 || one > 9 || other < 0 || other > 9) return UNKNOWN;
        if (one == other) return OUTSIDE;
        int sum = 0;
        for (int t = 0; t <= 300; t++) {
            if (strikeAt(one, other, heightAt(one, t), heightAt(other, t))) sum++;
        }
        return sum;
    }

    private List<Integer> doable() {
        List<Integer> list = new ArrayList<>();
        for (int m = 0; m < now.moves.size(); m++) {
            if (even(now.moves.get(m).bar)) list.add(m);
        }
        return list;
    }

    private boolean[][] together(List<Integer> list) {
        int[] ends = new int[list.size()];
        for (int i = 0; i < ends.length; i++) {
            ends[i] = end(now.moves.get(list.get(i)));
        }
        boolean[][] fit = new boolean[ends.length][ends.length];
        for (int i = 0; i < ends.length; i++) {
            for (int j = 0; j < ends.length; j++) {
                Move a = now.moves.get(list.get(i));
                Move b = now.moves.get(list.get(j));
                int way = Math.abs(a.bar - b.bar);
                fit[i][j] = i != j && (ends[i] <= b.time - way || ends[j] <= a.time - way);
            }
        }
        return fit;
    }

    /** For each set of MOVES, as bits, the least number of hands: one hand does the first of it with some of the rest. */
    private static int[] leastHands(boolean[][] fit) {
        int n = fit.length;
        boolean[] oneHand = new boolean[1 << n];
        int[] least = new int[1 << n];
        for (int set = 0; set < 1 << n; set++) {
            oneHand[set] = true;
            for (int i = 0; i < n; i++) {
                for (int j = i + 1; j < n; j++) {
                    if ((set >> i & 1) == 1 && (set >> j & 1) == 1 && !fit[i][j]) oneHand[set] = false;
                }
            }
        }
        for (int set = 1; set < 1 << n; set++) {
            least[set] = n;
            for (int part = set; part > 0; part = part - 1 & set) {
                if (oneHand[part]) least[set] = Math.min(least[set], 1 + least[set & ~part]);
            }
        }
        return least;
    }

    private static boolean give(boolean[][] fit, int[] hand, int i, int hands) {
        if (i == hand.length) return true;
        for (int h = 0; h < hands; h++) {
            boolean fits = true;
            for (int j = 0; j < i; j++) {
                fits &= hand[j] != h || fit[i][j];
            }
            if (!fits) continue;
            hand[i] = h;
            if (give(fit, hand, i + 1, hands)) return true;
        }
        return false;
    }

    private Map<Integer, Integer> crew() {
        List<Integer> list = doable();
        boolean[][] fit = together(list);
        int[] hand = new int[list.size()];
        if (!give(fit, hand, 0, hands(0))) throw new IllegalStateException("no way with the least hands");
        Map<Integer, Integer> of = new HashMap<>();
        for (int i = 0; i < hand.length; i++) {
            of.put(list.get(i), hand[i]);
        }
        return of;
    }

    int hands(int what) {
        List<Integer> list = doable();
        if (what == 1) return list.size();
        if (what == 0) {
            int[] least = leastHands(together(list));
            return least[least.length - 1];
        }
        if (what != 2) return OUTSIDE;
        int[] ends = list.stream().mapToInt(m -> end(now.moves.get(m))).toArray();
        int most = 0;
        for (int t = 0; t <= 300; t++) {
            int sum = 0;
            for (int i = 0; i < ends.length; i++) {
                if (now.moves.get(list.get(i)).time <= t && ends[i] > t) sum++;
            }
            most = Math.max(most, sum);
        }
        return most;
    }

    int crew(int h, int k) {
        if (h < 0 || h > 9) return OUTSIDE;
        List<Integer> its = new ArrayList<>();
        crew().forEach((m, hand) -> {
            if (hand == h) its.add(m);
        });
        its.sort((a, b) -> now.moves.get(a).time - now.moves.get(b).time);
        return k >= 0 && k < its.size() ? its.get(k) : NONE;
    }

    int image(int k) {
        if (k < 0 || k > 1) return OUTSIDE;
        images[k] = now.copy();
        return 1;
    }

    int restore(int k) {
        if (k < 0 || k > 1) return OUTSIDE;
        if (images[k] == null) return STATE;
        now = images[k].copy();
        return 1;
    }

    int count(int what) {
        if (what == 0) return now.moves.size();
        if (what == 1) return now.sway;
        if (what == 4) return now.moves.stream().mapToInt(this::end).max().orElse(NONE);
        if (what == 5) return (images[0] != null ? 1 : 0) + (images[1] != null ? 2 : 0);
        int sum = 0;
        if (what == 2) {
            for (int b = 0; b < 10; b++) {
                if (even(b)) sum++;
            }
            return sum;
        }
        if (what != 3) return OUTSIDE;
        for (int one = 0; one < 10; one++) {
            for (int other = 0; other < one; other++) {
                if (near(one, other)) sum++;
            }
        }
        return sum;
    }
}
