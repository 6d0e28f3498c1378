import java.util.ArrayDeque;
import java.util.ArrayList;
import java.util.Collections;
import java.util.HashMap;
import java.util.HashSet;
import java.util.List;
import java.util.Map;
import java.util.Set;
import java.util.TreeMap;

// Long runs of made-up calls, the same at every start, beside a second judge written with sets straight from the Terms.
public final class NetJudgeAgainstModel {
    private static final int OBJECTS = 3000;
    private static final int CALLS = 60;
    private static final int DEEP = 2;
    // Found by trial: a safe net with a marking at distance 15, which nets made up at once never come near.
    private static final int DEEP_INITIAL = 35;
    private static final int[] DEEP_PRE = {18, 20, 20, 24, 6, 40, 1, 10};
    private static final int[] DEEP_POST = {6, 8, 1, 10, 5, 9, 16, 3};
    private static int wrong = 0;
    private static long state = 20261115L;

    public static void main(String[] args) {
        int safe = 0;
        int deep = 0;
        int dead = 0;
        for (int i = 0; i < OBJECTS && wrong < 20; i++) {
            int style = i % 3;
            int places = style == DEEP ? 6 : below(4) == 0 ? below(10) - 2 : 4 + below(3);
            int initial = style == DEEP ? DEEP_INITIAL : oddSet();
            NetJudge x = new NetJudge(places, initial);
            Model model = new Model(places, initial);
            String run = "run " + i + " (" + places + ", " + initial + (style == DEEP ? ", deep net)" : ")");
            if (style == DEEP) digDeep(x, model);
            for (int c = 0; c < CALLS && wrong < 20; c++) {
                run = change(run, x, model, style);
                compare(run, x, model);
            }
            if (model.isSafe()) {
                safe++;
                deep = Math.max(deep, Collections.max(model.reachable().values()));
                dead += model.deadlock() > 1 ? 1 : 0;
            }
        }
        // A comparison of nets that are all unsafe, or all at a standstill, would say nothing.
        System.out.println(safe + " of " + OBJECTS + " ended safe, greatest distance " + deep + ", far dead ends " + dead);
        due("objects that ended safe, enough", safe > OBJECTS / 5, true);
        due("objects that ended unsafe, enough", safe < OBJECTS * 4 / 5, true);
        due("greatest distance met, enough", deep >= 15, true);
        due("dead markings farther than 1, enough", dead >= 50, true);
        System.out.println(wrong == 0 ? "the judge and the model agree" : wrong + " answers are not as due");
        if (wrong != 0) System.exit(1);
    }

    private static void due(String what, Object got, Object want) {
        if (!got.equals(want)) {
            wrong++;
            System.out.println(what + " answered " + got + ", due is " + want);
        }
    }

    private static int below(int bound) {
        state = state * 6364136223846793005L + 1442695040888963407L;
        return (int) ((state >>> 33) % bound);
    }

    private static int smallSet(int places) {
        return 1 << below(places) | 1 << below(places);
    }

    private static int oddSet() {
        switch (below(4)) {
            case 0: return below(64);
            case 1: return 1 << below(32);
            case 2: return 1 << below(6);
            default: return below(1 << 30) * 4 + below(4);
        }
    }

    private static int arcs(int style, int places) {
        if (below(10) == 0) return oddSet();
        return style == 0 ? 1 << below(places) : smallSet(places);
    }

    private static void digDeep(NetJudge x, Model model) {
        for (int t = 0; t < 8; t++) {
            x.setTransition(t, DEEP_PRE[t], DEEP_POST[t]);
            model.setTransition(t, DEEP_PRE[t], DEEP_POST[t]);
        }
    }

    private static String change(String run, NetJudge x, Model model, int style) {
        int t = below(12) == 0 ? below(12) - 2 : below(8);
        int kind = style == DEEP && below(12) != 0 ? 9 : below(10);
        String told;
        if (kind < 3) {
            int pre = arcs(style, model.places);
            int post = arcs(style, model.places);
            told = run + " setTransition(" + t + ", " + pre + ", " + post + ")";
            due(told, x.setTransition(t, pre, post), model.setTransition(t, pre, post));
        } else if (kind < 5) {
            told = run + " dropTransition(" + t + ")";
            due(told, x.dropTransition(t), model.dropTransition(t));
        } else if (kind < 6) {
            int m = below(3) == 0 ? oddSet() : smallSet(model.places);
            told = run + " setInitial(" + m + ")";
            due(told, x.setInitial(m), model.setInitial(m));
        } else if (kind < 7 && below(4) == 0) {
            told = run + " rewind()";
            x.rewind();
            model.rewind();
        } else {
            told = run + " fire(" + t + ")";
            due(told, x.fire(t), model.fire(t));
        }
        return told;
    }

    // A call or two of each kind, so that an object stays below 512 of them.
    private static void compare(String run, NetJudge x, Model model) {
        due(run + " current()", x.current(), bits(model.current));
        due(run + " enabled()", x.enabled(), model.enabled());
        int m = below(2) == 0 ? oddSet() : anyReachable(model);
        int t = below(10) - 1;
        int u = below(10) - 1;
        switch (below(4)) {
            case 0:
                due(run + " verdict()", x.verdict(), model.isSafe() ? NetJudge.SAFE : NetJudge.UNSAFE);
                due(run + " distance(" + m + ")", x.distance(m), model.distance(m));
                break;
            case 1:
                due(run + " markings()", x.markings(), model.isSafe() ? model.reachable().size() : 0);
                due(run + " covers(" + m + ")", x.covers(m), model.covers(m));
                break;
            case 2:
                due(run + " firstFiring(" + t + ")", x.firstFiring(t), model.firstFiring(t));
                due(run + " together(" + t + ", " + u + ")", x.together(t, u), model.together(t, u));
                break;
            default:
                due(run + " deadlock()", x.deadlock(), model.deadlock());
                due(run + " deadMarking()", x.deadMarking(), model.deadMarking());
        }
    }

    private static int anyReachable(Model model) {
        List<Integer> all = new ArrayList<>();
        for (Set<Integer> marking : model.reachable().keySet()) all.add(bits(marking));
        Collections.sort(all);
        return all.get(below(all.size()));
    }

    private static Set<Integer> set(int bits) {
        Set<Integer> set = new HashSet<>();
        for (int p = 0; p < 32; p++) {
            if ((bits >> p & 1) == 1) set.add(p);
        }
        return set;
    }

    private static int bits(Set<Integer> set) {
        int bits = 0;
        for (int p : set) bits |= 1 << p;
        return bits;
    }

    private static final class Model {
        final int places;
        final Map<Integer, List<Set<Integer>>> transitions = new TreeMap<>();
        Set<Integer> initial;
        Set<Integer> current;
        private Map<Set<Integer>, Integer> known = null;

        Model(int places, int initial) {
            this.places = Math.max(1, Math.min(6, places));
            this.initial = set(initial);
            this.initial.removeIf(p -> p >= this.places);
            rewind();
        }

        void rewind() {
            current = initial;
        }

        private boolean changed() {
            known = null;
            rewind();
            return true;
        }

        private boolean allPlaces(Set<Integer> set) {
            return set.stream().allMatch(p -> p < places);
        }

        boolean setTransition(int t, int pre, int post) {
            if (t < 0 || t > 7) return false;
            for (Set<Integer> side : List.of(set(pre), set(post))) {
                if (!allPlaces(side) || side.size() < 1 || side.size() > 2) return false;
            }
            transitions.put(t, List.of(set(pre), set(post)));
            return changed();
        }

        boolean dropTransition(int t) {
            return transitions.remove(t) != null && changed();
        }

        boolean setInitial(int m) {
            if (!allPlaces(set(m))) return false;
            initial = set(m);
            return changed();
        }

        boolean ready(int t, Set<Integer> marking) {
            return transitions.containsKey(t) && marking.containsAll(transitions.get(t).get(0));
        }

        boolean clear(int t, Set<Integer> marking) {
            if (!ready(t, marking)) return false;
            Set<Integer> fresh = new HashSet<>(transitions.get(t).get(1));
            fresh.removeAll(transitions.get(t).get(0));
            return Collections.disjoint(fresh, marking);
        }

        Set<Integer> next(int t, Set<Integer> marking) {
            Set<Integer> next = new HashSet<>(marking);
            next.removeAll(transitions.get(t).get(0));
            next.addAll(transitions.get(t).get(1));
            return next;
        }

        boolean fire(int t) {
            if (!clear(t, current)) return false;
            current = next(t, current);
            return true;
        }

        int enabled() {
            Set<Integer> set = new HashSet<>(transitions.keySet());
            set.removeIf(t -> !clear(t, current));
            return bits(set);
        }

        Map<Set<Integer>, Integer> reachable() {
            if (known != null) return known;
            known = new HashMap<>();
            known.put(initial, 0);
            ArrayDeque<Set<Integer>> waiting = new ArrayDeque<>(List.of(initial));
            while (!waiting.isEmpty()) {
                Set<Integer> marking = waiting.remove();
                for (int t : transitions.keySet()) {
                    if (clear(t, marking) && known.putIfAbsent(next(t, marking), known.get(marking) + 1) == null) {
                        waiting.add(next(t, marking));
                    }
                }
            }
            return known;
        }

        boolean isSafe() {
            return reachable().keySet().stream()
                .allMatch(m -> transitions.keySet().stream().allMatch(t -> !ready(t, m) || clear(t, m)));
        }

        int distance(int m) {
            return isSafe() ? reachable().getOrDefault(set(m), -1) : -1;
        }

        private int least(java.util.function.Predicate<Set<Integer>> wanted) {
            if (!isSafe()) return -1;
            return reachable().entrySet().stream().filter(e -> wanted.test(e.getKey()))
                .mapToInt(Map.Entry::getValue).min().orElse(-1);
        }

        int covers(int set) {
            return least(m -> m.containsAll(set(set)));
        }

        int firstFiring(int t) {
            int before = least(m -> clear(t, m));
            return before < 0 ? -1 : before + 1;
        }

        boolean together(int t, int u) {
            return t != u && least(m -> ready(t, m) && ready(u, m)
                && Collections.disjoint(transitions.get(t).get(0), transitions.get(u).get(0))) >= 0;
        }

        private boolean dead(Set<Integer> marking) {
            return transitions.keySet().stream().noneMatch(t -> ready(t, marking));
        }

        int deadlock() {
            return least(this::dead);
        }

        int deadMarking() {
            int distance = deadlock();
            return reachable().entrySet().stream().filter(e -> e.getValue() == distance && dead(e.getKey()))
                .mapToInt(e -> bits(e.getKey())).min().orElse(-1);
        }
    }
}
