// Each promise of the document by itself, in ordinary use; its boundary cases stand in NetJudgeBoundaries.
public final class NetJudgePromises {
    private static final int BIT31 = 1 << 31;
    private static int wrong = 0;

    public static void main(String[] args) {
        constants();
        newObject();
        setTransition();
        dropTransition();
        setInitial();
        verdict();
        verdictLooksOnlyAtReachableMarkings();
        distance();
        markings();
        covers();
        firstFiring();
        together();
        deadlock();
        deadMarking();
        fire();
        current();
        enabled();
        rewind();
        questionsLeaveTheGameAlone();
        System.out.println(wrong == 0 ? "all promises hold" : wrong + " answers are not as due");
        if (wrong != 0) System.exit(1);
    }

    private static void due(String what, long got, long want) {
        if (got != want) {
            wrong++;
            System.out.println(what + " answered " + got + ", due is " + want);
        }
    }

    private static void due(String what, boolean got, boolean want) {
        due(what, got ? 1 : 0, want ? 1 : 0);
    }

    // a token goes round places 0, 1, 2, 3
    private static NetJudge ring() {
        NetJudge x = new NetJudge(4, 1);
        due("ring: setTransition(0)", x.setTransition(0, 1, 2), true);
        due("ring: setTransition(1)", x.setTransition(1, 2, 4), true);
        due("ring: setTransition(2)", x.setTransition(2, 4, 8), true);
        due("ring: setTransition(3)", x.setTransition(3, 8, 1), true);
        return x;
    }

    // t0 splits the token of place 0 into 1 and 2; t1 and t2 move the halves to 3 and 4; t3 joins them in 5
    private static NetJudge fork() {
        NetJudge x = new NetJudge(6, 1);
        due("fork: setTransition(0)", x.setTransition(0, 1, 6), true);
        due("fork: setTransition(1)", x.setTransition(1, 2, 8), true);
        due("fork: setTransition(2)", x.setTransition(2, 4, 16), true);
        due("fork: setTransition(3)", x.setTransition(3, 24, 32), true);
        return x;
    }

    // unsafe at once: both places have a token, and t0 moves one onto the other
    private static NetJudge clash() {
        NetJudge x = new NetJudge(3, 3);
        due("clash: setTransition(0)", x.setTransition(0, 1, 2), true);
        due("clash: setTransition(1)", x.setTransition(1, 2, 4), true);
        return x;
    }

    private static void constants() {
        due("SAFE", NetJudge.SAFE, 0);
        due("UNSAFE", NetJudge.UNSAFE, 1);
    }

    private static void newObject() {
        NetJudge x = new NetJudge(4, 5);
        due("new: current", x.current(), 5);
        due("new: enabled", x.enabled(), 0);
        due("new: verdict", x.verdict(), NetJudge.SAFE);
        due("new: markings", x.markings(), 1);
        due("new: distance(5)", x.distance(5), 0);
        due("new: deadlock", x.deadlock(), 0);
        due("new: deadMarking", x.deadMarking(), 5);
        for (int t = 0; t < 8; t++) {
            due("new: fire " + t, x.fire(t), false);
            due("new: firstFiring " + t, x.firstFiring(t), -1);
            due("new: drop " + t, x.dropTransition(t), false);
        }
        due("new: empty marking", new NetJudge(4, 0).current(), 0);
        due("new: foreign bits", new NetJudge(4, 0x75).current(), 5);
        due("new: all bits", new NetJudge(4, -1).current(), 15);
        due("new: bit 31 alone", new NetJudge(4, BIT31).current(), 0);
        due("new: foreign bits are no marking", new NetJudge(4, 0x75).distance(0x75), -1);
    }

    private static void setTransition() {
        NetJudge x = new NetJudge(6, 1);
        due("set: t 0", x.setTransition(0, 1, 2), true);
        due("set: t 7", x.setTransition(7, 2, 4), true);
        due("set: enabled", x.enabled(), 1);
        due("set: fire 0", x.fire(0), true);
        due("set: enabled later", x.enabled(), 1 << 7);
        due("set: again", x.setTransition(7, 1, 32), true);
        due("set: rewinds", x.current(), 1);
        due("set: both now", x.enabled(), 1 | 1 << 7);
        due("set: fire 7", x.fire(7), true);
        due("set: new post", x.current(), 32);
        due("set: the same once more", x.setTransition(7, 1, 32), true);
        due("set: rewinds though nothing is new", x.current(), 1);
        due("set: distance of the new post", x.distance(32), 1);
        due("set: distance of the old post", x.distance(4), -1);
        due("set: two and two, shared", x.setTransition(3, 33, 48), true);
        due("set: two and one, highest", x.setTransition(4, 48, 32), true);
        due("set: pre is post", x.setTransition(5, 3, 3), true);
    }

    private static void dropTransition() {
        NetJudge x = ring();
        due("drop: play", x.fire(0), true);
        int[] absent = {-1, 4, 5, 6, 7, 8, 32, Integer.MIN_VALUE, Integer.MAX_VALUE};
        for (int t : absent) {
            due("drop: absent " + t, x.dropTransition(t), false);
            due("drop: the game stays after " + t, x.current(), 2);
        }
        due("drop: markings stay", x.markings(), 4);
        due("drop: 2", x.dropTransition(2), true);
        due("drop: rewinds", x.current(), 1);
        due("drop: markings", x.markings(), 3);
        due("drop: distance", x.distance(8), -1);
        due("drop: deadlock", x.deadlock(), 2);
        due("drop: 2 is gone", x.dropTransition(2), false);
        due("drop: firstFiring of the gone", x.firstFiring(2), -1);
        due("drop: the others stay", x.firstFiring(1), 2);
        due("drop: put again", x.setTransition(2, 4, 8), true);
        due("drop: markings again", x.markings(), 4);
        due("drop: 0", x.dropTransition(0), true);
        due("drop: 0 is gone", x.enabled(), 0);
        NetJudge y = new NetJudge(2, 1);
        due("drop: set 7", y.setTransition(7, 1, 2), true);
        due("drop: 7", y.dropTransition(7), true);
        due("drop: 7 is gone", y.enabled(), 0);
    }

    private static void setInitial() {
        NetJudge x = ring();
        due("initial: play", x.fire(0), true);
        int[] foreign = {16, 17, 32, 1 << 6, 1 << 30, BIT31, BIT31 | 4, -1};
        for (int m : foreign) {
            due("initial: foreign " + m, x.setInitial(m), false);
            due("initial: the game stays after " + m, x.current(), 2);
        }
        due("initial: distances stay", x.distance(1), 0);
        due("initial: 4", x.setInitial(4), true);
        due("initial: rewinds", x.current(), 4);
        due("initial: distance of the new", x.distance(4), 0);
        due("initial: distance of the old", x.distance(1), 2);
        due("initial: play on", x.fire(2), true);
        due("initial: the same", x.setInitial(4), true);
        due("initial: rewinds though nothing is new", x.current(), 4);
        x.rewind();
        due("initial: rewind goes to the new", x.current(), 4);
        due("initial: all places", x.setInitial(15), true);
        due("initial: full is unsafe", x.verdict(), NetJudge.UNSAFE);
        due("initial: empty", x.setInitial(0), true);
        due("initial: empty is current", x.current(), 0);
        due("initial: empty is safe", x.verdict(), NetJudge.SAFE);
        due("initial: empty is dead", x.deadMarking(), 0);
    }

    private static void verdict() {
        due("verdict: ring", ring().verdict(), NetJudge.SAFE);
        due("verdict: fork", fork().verdict(), NetJudge.SAFE);
        due("verdict: clash", clash().verdict(), NetJudge.UNSAFE);
        NetJudge x = fork();
        due("verdict: the join makes two", x.setTransition(4, 32, 3), true);
        due("verdict: one firing clashes late", x.verdict(), NetJudge.UNSAFE);
        due("verdict: mend", x.dropTransition(4), true);
        due("verdict: mended", x.verdict(), NetJudge.SAFE);
        NetJudge shared = new NetJudge(3, 3);
        due("verdict: a shared place", shared.setTransition(0, 3, 6), true);
        due("verdict: a shared place is no clash", shared.verdict(), NetJudge.SAFE);
        due("verdict: a loop", shared.setTransition(1, 2, 2), true);
        due("verdict: a loop is no clash", shared.verdict(), NetJudge.SAFE);
        NetJudge half = new NetJudge(3, 3);
        due("verdict: one of two post places", half.setTransition(0, 1, 6), true);
        due("verdict: one taken place is enough", half.verdict(), NetJudge.UNSAFE);
        due("verdict: ready wants all of pre", half.setTransition(0, 5, 2), true);
        due("verdict: half ready is not ready", half.verdict(), NetJudge.SAFE);
    }

    private static void verdictLooksOnlyAtReachableMarkings() {
        NetJudge x = ring();
        x.setInitial(3);
        due("reachable: two tokens can clash", x.verdict(), NetJudge.UNSAFE);
        x.setInitial(1);
        due("reachable: one token cannot", x.verdict(), NetJudge.SAFE);
        // in 2 nothing is ready; in 5 and 7, which no run meets, t0 would clash
        NetJudge y = new NetJudge(3, 2);
        y.setTransition(0, 1, 4);
        y.setTransition(1, 5, 2);
        due("reachable: clashes elsewhere do not count", y.verdict(), NetJudge.SAFE);
        y.setInitial(7);
        due("reachable: clashes here do", y.verdict(), NetJudge.UNSAFE);
        y.setInitial(5);
        due("reachable: one clash, one clear", y.verdict(), NetJudge.UNSAFE);
        y.fire(1);
        due("reachable: the game's marking does not matter", y.verdict(), NetJudge.UNSAFE);
    }

    private static void distance() {
        NetJudge x = ring();
        for (int p = 0; p < 4; p++) {
            due("distance: ring " + p, x.distance(1 << p), p);
        }
        int[] unreached = {0, 3, 15, 16, 17, 63, 64, 65, 1 << 30, BIT31, BIT31 | 1, -1, Integer.MAX_VALUE};
        for (int m : unreached) {
            due("distance: unreached " + m, x.distance(m), -1);
        }
        due("distance: a short cut", x.setTransition(4, 1, 8), true);
        due("distance: over the short cut", x.distance(8), 1);
        due("distance: not over the short cut", x.distance(4), 2);
        NetJudge y = fork();
        due("distance: 6", y.distance(6), 1);
        due("distance: 10", y.distance(10), -1);
        due("distance: 12", y.distance(12), 2);
        due("distance: 18", y.distance(18), 2);
        due("distance: 24", y.distance(24), 3);
        due("distance: 32", y.distance(32), 4);
        due("distance: full of six places", new NetJudge(6, 63).distance(63), 0);
    }

    private static void markings() {
        due("markings: ring", ring().markings(), 4);
        due("markings: fork", fork().markings(), 6);
        due("markings: clash", clash().markings(), 0);
        NetJudge x = new NetJudge(6, 63);
        due("markings: full", x.markings(), 1);
        // three places that swap by themselves with three others: all eight choices
        x.setInitial(7);
        for (int p = 0; p < 3; p++) {
            x.setTransition(p, 1 << p, 8 << p);
            x.setTransition(p + 3, 8 << p, 1 << p);
        }
        due("markings: three swaps", x.markings(), 8);
        due("markings: a loop adds none", x.setTransition(6, 1, 1), true);
        due("markings: with the loop", x.markings(), 8);
    }

    private static void covers() {
        NetJudge x = fork();
        due("covers: nothing", x.covers(0), 0);
        due("covers: the initial", x.covers(1), 0);
        due("covers: 2", x.covers(2), 1);
        due("covers: 8", x.covers(8), 2);
        due("covers: 16 and 2", x.covers(18), 2);
        due("covers: 8 and 16", x.covers(24), 3);
        due("covers: 32", x.covers(32), 4);
        due("covers: never both", x.covers(33), -1);
        int[] foreign = {64, 65, 1 << 30, BIT31, BIT31 | 1, -1, Integer.MAX_VALUE};
        for (int set : foreign) {
            due("covers: foreign " + set, x.covers(set), -1);
        }
        NetJudge small = new NetJudge(2, 3);
        due("covers: all", small.covers(3), 0);
        due("covers: a place that is none", small.covers(4), -1);
        due("covers: one of two", small.covers(2), 0);
        due("covers: unsafe", clash().covers(0), -1);
        // of two markings with place 2 the lesser number, 4, is the farther one
        NetJudge y = new NetJudge(5, 3);
        y.setTransition(0, 3, 24);
        y.setTransition(1, 24, 4);
        y.setTransition(2, 3, 20);
        due("covers: distance of 4", y.distance(4), 2);
        due("covers: distance of 20", y.distance(20), 1);
        due("covers: the least distance", y.covers(4), 1);
    }

    private static void firstFiring() {
        NetJudge x = fork();
        due("first: 0", x.firstFiring(0), 1);
        due("first: 1", x.firstFiring(1), 2);
        due("first: 2", x.firstFiring(2), 2);
        due("first: 3", x.firstFiring(3), 4);
        int[] absent = {-1, 4, 7, 8, 32, Integer.MIN_VALUE, Integer.MAX_VALUE};
        for (int t : absent) {
            due("first: absent " + t, x.firstFiring(t), -1);
        }
        due("first: set 7", x.setTransition(7, 33, 2), true);
        due("first: never", x.firstFiring(7), -1);
        due("first: a loop at the end", x.setTransition(7, 32, 32), true);
        due("first: the loop", x.firstFiring(7), 5);
        x.fire(0);
        due("first: counts from the initial marking", x.firstFiring(0), 1);
        due("first: unsafe", clash().firstFiring(1), -1);
    }

    private static void together() {
        NetJudge x = fork();
        due("together: 1 2", x.together(1, 2), true);
        due("together: 2 1", x.together(2, 1), true);
        due("together: one after the other", x.together(0, 1), false);
        due("together: far apart", x.together(0, 3), false);
        for (int t = -1; t <= 8; t++) {
            due("together: with itself " + t, x.together(t, t), false);
        }
        int[] absent = {-1, 4, 7, 8, 32, Integer.MIN_VALUE, Integer.MAX_VALUE};
        for (int t : absent) {
            due("together: absent second " + t, x.together(1, t), false);
            due("together: absent first " + t, x.together(t, 1), false);
        }
        x.setTransition(4, 2, 16);
        x.setTransition(5, 6, 32);
        due("together: they make it unsafe", x.verdict(), NetJudge.UNSAFE);
        x.dropTransition(4);
        due("together: safe again", x.verdict(), NetJudge.SAFE);
        due("together: ready both, but one shared place", x.together(1, 5), false);
        x.setTransition(4, 2, 8);
        due("together: ready both, the same place", x.together(1, 4), false);
        due("together: beside each other", x.together(4, 2), true);
        due("together: unsafe", clash().together(0, 1), false);
        // ready with no shared place, but never in the same marking
        NetJudge y = new NetJudge(3, 1);
        y.setTransition(0, 1, 2);
        y.setTransition(1, 2, 1);
        due("together: in turns", y.together(0, 1), false);
        // only far from the initial marking
        NetJudge z = fork();
        z.setTransition(4, 8, 8);
        z.setTransition(5, 16, 16);
        due("together: late", z.together(4, 5), true);
        due("together: the join shares with a loop", z.together(3, 4), false);
    }

    // from place 0 to dead 16 or dead 4 in two firings, or over place 3 to dead 2 in three
    private static NetJudge threeEnds() {
        NetJudge x = new NetJudge(6, 1);
        x.setTransition(0, 1, 8);
        x.setTransition(1, 8, 16);
        x.setTransition(2, 8, 4);
        x.setTransition(3, 8, 32);
        x.setTransition(4, 32, 2);
        return x;
    }

    private static void deadlock() {
        due("deadlock: ring", ring().deadlock(), -1);
        due("deadlock: fork", fork().deadlock(), 4);
        due("deadlock: three ends", threeEnds().deadlock(), 2);
        due("deadlock: unsafe", clash().deadlock(), -1);
        NetJudge x = threeEnds();
        x.setTransition(5, 16, 16);
        x.setTransition(6, 4, 4);
        due("deadlock: a loop is ready for ever", x.deadlock(), 3);
        x.setTransition(7, 2, 2);
        due("deadlock: loops at all ends", x.deadlock(), -1);
        x.setInitial(0);
        due("deadlock: empty at the start", x.deadlock(), 0);
        x.fire(0);
        due("deadlock: empty is dead", x.deadMarking(), 0);
    }

    private static void deadMarking() {
        due("dead: ring", ring().deadMarking(), -1);
        due("dead: fork", fork().deadMarking(), 32);
        due("dead: the least of the nearest", threeEnds().deadMarking(), 4);
        due("dead: the farther one is less", threeEnds().distance(2), 3);
        due("dead: unsafe", clash().deadMarking(), -1);
        NetJudge x = threeEnds();
        x.dropTransition(2);
        due("dead: without the least", x.deadMarking(), 16);
        x.dropTransition(1);
        due("dead: the far end", x.deadMarking(), 2);
        x.dropTransition(0);
        due("dead: the start", x.deadMarking(), 1);
        // 4 has the distance of the dead 16, and is less, but a loop is ready there
        NetJudge y = threeEnds();
        y.setTransition(5, 4, 4);
        due("dead: not one with a loop", y.deadMarking(), 16);
    }

    private static void fire() {
        NetJudge x = fork();
        int[] absent = {-1, 4, 7, 8, 32, Integer.MIN_VALUE, Integer.MAX_VALUE};
        for (int t : absent) {
            due("fire: absent " + t, x.fire(t), false);
            due("fire: nothing moved by " + t, x.current(), 1);
        }
        due("fire: not ready", x.fire(3), false);
        due("fire: 0", x.fire(0), true);
        due("fire: 0 again", x.fire(0), false);
        due("fire: 2", x.fire(2), true);
        due("fire: half ready", x.fire(3), false);
        due("fire: still", x.current(), 18);
        due("fire: 1", x.fire(1), true);
        due("fire: 3", x.fire(3), true);
        due("fire: at the end", x.current(), 32);
        NetJudge y = clash();
        due("fire: ready but not clear", y.fire(0), false);
        due("fire: nothing moved", y.current(), 3);
        due("fire: clear in an unsafe net", y.fire(1), true);
        due("fire: moved", y.current(), 5);
        due("fire: clear now", y.fire(0), true);
        due("fire: moved again", y.current(), 6);
        NetJudge z = new NetJudge(3, 3);
        z.setTransition(0, 3, 6);
        due("fire: a shared place", z.fire(0), true);
        due("fire: the shared place keeps its token", z.current(), 6);
        z.setTransition(1, 1, 1);
        due("fire: a loop", z.fire(1), true);
        due("fire: a loop moves nothing", z.current(), 3);
    }

    private static void current() {
        due("current: at the start", new NetJudge(6, 42).current(), 42);
        NetJudge x = ring();
        for (int i = 0; i < 12; i++) {
            due("current: round " + i, x.current(), 1 << i % 4);
            due("current: fire " + i, x.fire(i % 4), true);
        }
    }

    private static void enabled() {
        NetJudge x = fork();
        due("enabled: at the start", x.enabled(), 1);
        x.fire(0);
        due("enabled: after the split", x.enabled(), 6);
        x.fire(1);
        due("enabled: half", x.enabled(), 4);
        x.fire(2);
        due("enabled: the join", x.enabled(), 8);
        x.fire(3);
        due("enabled: none", x.enabled(), 0);
        NetJudge y = clash();
        due("enabled: ready but not clear is not enabled", y.enabled(), 2);
        NetJudge z = new NetJudge(1, 1);
        for (int t = 0; t < 8; t++) {
            z.setTransition(t, 1, 1);
        }
        due("enabled: all eight", z.enabled(), 255);
        z.setInitial(0);
        due("enabled: none of the eight", z.enabled(), 0);
    }

    private static void rewind() {
        NetJudge x = ring();
        x.rewind();
        due("rewind: at the start", x.current(), 1);
        x.fire(0);
        x.fire(1);
        x.rewind();
        due("rewind: back", x.current(), 1);
        due("rewind: enabled", x.enabled(), 1);
        due("rewind: the net stays", x.markings(), 4);
        NetJudge y = clash();
        y.fire(1);
        y.rewind();
        due("rewind: in an unsafe net", y.current(), 3);
    }

    private static void questionsLeaveTheGameAlone() {
        NetJudge x = fork();
        x.fire(0);
        x.fire(1);
        x.verdict();
        x.distance(6);
        x.markings();
        x.covers(24);
        x.firstFiring(3);
        x.together(1, 2);
        x.deadlock();
        x.deadMarking();
        x.enabled();
        due("questions: the game stays", x.current(), 12);
        due("questions: and its distance", x.distance(x.current()), 2);
        NetJudge other = fork();
        due("questions: objects share nothing", other.current(), 1);
        due("questions: the first object stays", x.current(), 12);
    }
}
