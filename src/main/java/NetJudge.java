/** A judge of small place-and-transition nets. */
public final class NetJudge {
    public static final int SAFE = 0;
    public static final int UNSAFE = 1;

    private static final int MOST_PLACES = 6;
    private static final int TRANSITIONS = 8;
    private static final int MARKINGS = 64;
    private static final int NONE = -1;

    /** A present transition takes from at least one place, so an empty set here says that there is none. */
    private final int[] pre = new int[TRANSITIONS];
    private final int[] post = new int[TRANSITIONS];

    /** NONE for every marking when the net is UNSAFE, so that the questions need not ask for the verdict. */
    private final int[] distances = new int[MARKINGS];

    private final int allPlaces;
    private int initial;
    private int game;
    private boolean safe;

    public NetJudge(int places, int initial) {
        int count = places;
        if (count < 1) {
            count = 1;
        }
        if (count > MOST_PLACES) {
            count = MOST_PLACES;
        }
        this.allPlaces = (1 << count) - 1;
        this.initial = initial & this.allPlaces;
        startAnew();
    }

    public boolean setTransition(int t, int pre, int post) {
        if (!isNumber(t) || !isArcSet(pre) || !isArcSet(post)) {
            return false;
        }
        this.pre[t] = pre;
        this.post[t] = post;
        startAnew();
        return true;
    }

    public boolean dropTransition(int t) {
        if (!isPresent(t)) {
            return false;
        }
        pre[t] = 0;
        post[t] = 0;
        startAnew();
        return true;
    }

    public boolean setInitial(int m) {
        if (!hasOnlyPlaces(m)) {
            return false;
        }
        initial = m;
        startAnew();
        return true;
    }

    public int verdict() {
        return safe ? SAFE : UNSAFE;
    }

    public int distance(int m) {
        if (m < 0 || m >= MARKINGS) {
            return NONE;
        }
        return distances[m];
    }

    public int markings() {
        int count = 0;
        for (int m = 0; m < MARKINGS; m++) {
            if (isReached(m)) {
                count++;
            }
        }
        return count;
    }

    public int covers(int set) {
        int least = NONE;
        for (int m = 0; m < MARKINGS; m++) {
            if (isReached(m) && (m & set) == set) {
                least = lesser(least, distances[m]);
            }
        }
        return least;
    }

    public int firstFiring(int t) {
        if (!isPresent(t)) {
            return NONE;
        }
        // Only a safe net has a distance to answer here, and there ready is clear.
        int before = covers(pre[t]);
        return before == NONE ? NONE : before + 1;
    }

    public boolean together(int t, int u) {
        if (t == u || !isPresent(t) || !isPresent(u)) {
            return false;
        }
        if ((pre[t] & pre[u]) != 0) {
            return false;
        }
        return covers(pre[t] | pre[u]) != NONE;
    }

    public int deadlock() {
        int least = NONE;
        for (int m = 0; m < MARKINGS; m++) {
            if (isReached(m) && isDead(m)) {
                least = lesser(least, distances[m]);
            }
        }
        return least;
    }

    public int deadMarking() {
        int least = deadlock();
        if (least == NONE) {
            return NONE;
        }
        for (int m = 0; m < MARKINGS; m++) {
            if (distances[m] == least && isDead(m)) {
                return m;
            }
        }
        return NONE;
    }

    public boolean fire(int t) {
        if (!isPresent(t) || !isClear(t, game)) {
            return false;
        }
        game = after(t, game);
        return true;
    }

    public int current() {
        return game;
    }

    public int enabled() {
        int set = 0;
        for (int t = 0; t < TRANSITIONS; t++) {
            if (isClear(t, game)) {
                set |= 1 << t;
            }
        }
        return set;
    }

    public void rewind() {
        game = initial;
    }

    /** Every change of the net comes here: it makes the old distances stale and ends the running game. */
    private void startAnew() {
        game = initial;
        measureDistances();
        safe = isSafe();
        if (!safe) {
            forgetDistances();
        }
    }

    private void measureDistances() {
        forgetDistances();
        distances[initial] = 0;
        // A shortest run meets no marking twice, so no distance is as great as the number of markings.
        for (int step = 0; step < MARKINGS; step++) {
            for (int m = 0; m < MARKINGS; m++) {
                if (distances[m] == step) {
                    reachFrom(m);
                }
            }
        }
    }

    private void forgetDistances() {
        for (int m = 0; m < MARKINGS; m++) {
            distances[m] = NONE;
        }
    }

    private void reachFrom(int m) {
        for (int t = 0; t < TRANSITIONS; t++) {
            if (isClear(t, m)) {
                int next = after(t, m);
                if (!isReached(next)) {
                    distances[next] = distances[m] + 1;
                }
            }
        }
    }

    private boolean isSafe() {
        for (int m = 0; m < MARKINGS; m++) {
            if (isReached(m) && hasClash(m)) {
                return false;
            }
        }
        return true;
    }

    private boolean hasClash(int m) {
        for (int t = 0; t < TRANSITIONS; t++) {
            if (isReady(t, m) && !isClear(t, m)) {
                return true;
            }
        }
        return false;
    }

    private boolean isDead(int m) {
        for (int t = 0; t < TRANSITIONS; t++) {
            if (isReady(t, m)) {
                return false;
            }
        }
        return true;
    }

    private boolean isReached(int m) {
        return distances[m] != NONE;
    }

    private boolean isReady(int t, int m) {
        return pre[t] != 0 && (m & pre[t]) == pre[t];
    }

    private boolean isClear(int t, int m) {
        return isReady(t, m) && (m & post[t] & ~pre[t]) == 0;
    }

    private int after(int t, int m) {
        return (m & ~pre[t]) | post[t];
    }

    private boolean isNumber(int t) {
        return t >= 0 && t < TRANSITIONS;
    }

    private boolean isPresent(int t) {
        return isNumber(t) && pre[t] != 0;
    }

    private boolean isArcSet(int set) {
        return hasOnlyPlaces(set) && hasOneOrTwoBits(set);
    }

    private boolean hasOnlyPlaces(int set) {
        return (set & ~allPlaces) == 0;
    }

    private static boolean hasOneOrTwoBits(int set) {
        int withoutLowest = set & (set - 1);
        int withoutLowestTwo = withoutLowest & (withoutLowest - 1);
        return set != 0 && withoutLowestTwo == 0;
    }

    /** The lesser of two distances, of which the first may be NONE. */
    private static int lesser(int least, int distance) {
        return least == NONE || distance < least ? distance : least;
    }
}
