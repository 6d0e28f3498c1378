import java.io.IOException;
import java.nio.file.Files;
import java.nio.file.Path;
import java.util.LinkedHashMap;
import java.util.List;
import java.util.Map;
import java.util.Set;
import java.util.TreeSet;
import java.util.function.Predicate;
import java.util.function.Supplier;

// The boundary cases: one test for each sentence of the document, or part of one, that names such a case.
// The words before each test are looked up in the document, so that a sentence that is changed there shows here.
public final class NetJudgeBoundaries {
    private static final Path DOCUMENT = Path.of("../shared/DOC.md");
    private static final int LEAST = Integer.MIN_VALUE;
    private static final int GREATEST = Integer.MAX_VALUE;
    // Most of these come to a number 0 .. 7 under a mask, a shift, a sign turned or a cast to a lesser type.
    private static final int[] TOO_SMALL = {-1, -2, -7, -8, -9, -31, -32, -256, -65536};
    private static final int[] TOO_LARGE = {8, 9, 15, 16, 31, 32, 39, 63, 64, 256, 65536, 1 << 30};
    private static final int[] INT_ENDS = {LEAST, LEAST + 1, LEAST + 7, GREATEST - 1, GREATEST};

    private static final Set<String> tested = new TreeSet<>();
    private static String section;
    private static String sectionText;
    private static String where;
    private static int tests = 0;
    private static int wrong = 0;

    public static void main(String[] args) throws IOException {
        Map<String, String> document = sections();

        enter(document, "What it is");
        test("used for at most 512 calls", NetJudgeBoundaries::call512AfterFirings);
        test("used for at most 512 calls", NetJudgeBoundaries::call512AfterChanges);

        enter(document, "Terms");
        test("There are places 0 .. places - 1.", NetJudgeBoundaries::firstAndLastPlace);
        test("A MARKING is a set of places", NetJudgeBoundaries::emptyMarking);
        test("A MARKING is a set of places", NetJudgeBoundaries::fullMarking);
        test("at most eight TRANSITIONS with numbers 0 .. 7", NetJudgeBoundaries::allEightTransitions);
        test("each of one or two places", NetJudgeBoundaries::oneOrTwoPlaces);
        test("the two sets may share places", NetJudgeBoundaries::sharedPlaces);
        test("when every place of pre is in m", NetJudgeBoundaries::readyWantsAllOfPre);
        test("no place of post that is not in pre is in m", NetJudgeBoundaries::clearWantsAllOfPostFree);
        test("no place of post that is not in pre is in m", NetJudgeBoundaries::clearPassesOverSharedPlaces);
        test("m without the places of pre, and then with the places of post", NetJudgeBoundaries::nextMarking);
        test("are the initial marking and every marking that comes", NetJudgeBoundaries::initialAloneIsReachable);
        test("every marking that comes from a reachable one", NetJudgeBoundaries::allButTheEmptyAreReachable);
        test("and no others", NetJudgeBoundaries::noOthersAreReachable);
        test("in every reachable marking", NetJudgeBoundaries::clashInTheInitialMarking);
        test("in every reachable marking", NetJudgeBoundaries::clashInTheFarthestMarking);
        test("in every reachable marking", NetJudgeBoundaries::clashOutOfReach);
        test("every ready transition is clear", NetJudgeBoundaries::clashOfOneTransitionAlone);
        test("the least number of firings that lead to it", NetJudgeBoundaries::leastNumberOfFirings);
        test("the least number of firings that lead to it", NetJudgeBoundaries::greatDistance);
        test("0 for the initial marking", NetJudgeBoundaries::initialMarkingHasDistanceZero);
        test("which starts as the initial marking", NetJudgeBoundaries::gameStartsAsInitial);

        enter(document, "Promise 1: A new object");
        test("No transitions.", NetJudgeBoundaries::newObjectHasNoTransitions);
        test("clamped to 1 .. 6", NetJudgeBoundaries::tooFewPlaces);
        test("clamped to 1 .. 6", NetJudgeBoundaries::tooManyPlaces);
        test("clamped to 1 .. 6", NetJudgeBoundaries::placesWithinTheBounds);
        test("bits for numbers that are no places are ignored", NetJudgeBoundaries::newObjectIgnoresForeignBits);
        test("initial: the initial marking", NetJudgeBoundaries::newObjectEmptyOrFull);

        enter(document, "Promise 2: setTransition");
        test("whether it was present or not", NetJudgeBoundaries::setAbsentTransition);
        test("whether it was present or not", NetJudgeBoundaries::setPresentTransition);
        test("rewinds the game", NetJudgeBoundaries::setTransitionRewinds);
        test("Answers true", NetJudgeBoundaries::setTransitionAcceptsAllThatIsRight);
        test("t is not 0 .. 7", NetJudgeBoundaries::setTransitionTooSmall);
        test("t is not 0 .. 7", NetJudgeBoundaries::setTransitionTooLarge);
        test("t is not 0 .. 7", NetJudgeBoundaries::setTransitionIntEnds);
        test("pre or post has a bit (0 .. 31) for a number that is no place", NetJudgeBoundaries::setForeignPre);
        test("pre or post has a bit (0 .. 31) for a number that is no place", NetJudgeBoundaries::setForeignPost);
        test("does not have exactly one or two bits", NetJudgeBoundaries::setEmptyPre);
        test("does not have exactly one or two bits", NetJudgeBoundaries::setEmptyPost);
        test("does not have exactly one or two bits", NetJudgeBoundaries::setPreOfThreeOrMore);
        test("does not have exactly one or two bits", NetJudgeBoundaries::setPostOfThreeOrMore);
        test("false, changing nothing", NetJudgeBoundaries::setAbsentRefusedStaysAbsent);
        test("false, changing nothing", NetJudgeBoundaries::setAllWrongAtOnce);

        enter(document, "Promise 3: dropTransition");
        test("Takes transition t away", NetJudgeBoundaries::dropEachOfEight);
        test("Takes transition t away", NetJudgeBoundaries::dropTheOnlyOne);
        test("rewinds the game", NetJudgeBoundaries::dropTransitionRewinds);
        test("false, changing nothing, when there is no transition t", NetJudgeBoundaries::dropAbsent);
        test("false, changing nothing, when there is no transition t", NetJudgeBoundaries::dropTwice);
        test("false, changing nothing, when there is no transition t", NetJudgeBoundaries::dropTooSmall);
        test("false, changing nothing, when there is no transition t", NetJudgeBoundaries::dropTooLarge);
        test("false, changing nothing, when there is no transition t", NetJudgeBoundaries::dropIntEnds);

        enter(document, "Promise 4: setInitial");
        test("Makes m the initial marking", NetJudgeBoundaries::setInitialEmpty);
        test("Makes m the initial marking", NetJudgeBoundaries::setInitialFull);
        test("rewinds the game", NetJudgeBoundaries::setInitialRewinds);
        test("when m has a bit (0 .. 31) for a number that is no place", NetJudgeBoundaries::setInitialForeign);

        enter(document, "Promise 5: verdict");
        test("SAFE or UNSAFE", NetJudgeBoundaries::verdictWithoutTransitions);
        test("SAFE or UNSAFE", NetJudgeBoundaries::verdictOfTheEmptyMarking);
        test("SAFE or UNSAFE", NetJudgeBoundaries::verdictOfTheFullMarking);
        test("SAFE or UNSAFE", NetJudgeBoundaries::verdictThereAndBack);

        enter(document, "Promise 6: distance");
        test("-1 when m is not a reachable marking", NetJudgeBoundaries::distanceOfUnreachable);
        test("-1 when m is not a reachable marking", NetJudgeBoundaries::distanceOfEmptyAndFull);
        test("-1 when m is not a reachable marking", NetJudgeBoundaries::distanceOfForeign);
        test("-1 when m is not a reachable marking", NetJudgeBoundaries::distanceOfNegative);
        test("for every m when the net is UNSAFE", NetJudgeBoundaries::distanceInUnsafe);

        enter(document, "Promise 7: markings");
        test("The number of reachable markings", NetJudgeBoundaries::fewestMarkings);
        test("The number of reachable markings", NetJudgeBoundaries::mostMarkings);
        test("0 when the net is UNSAFE", NetJudgeBoundaries::markingsInUnsafe);

        enter(document, "Promise 8: covers");
        test("The least distance of a reachable marking", NetJudgeBoundaries::coversAtTheLeastDistance);
        test("every place of set (as bits 0 .. 31) has a token", NetJudgeBoundaries::coversTheEmptySet);
        test("every place of set (as bits 0 .. 31) has a token", NetJudgeBoundaries::coversTheFullSet);
        test("other places with or without", NetJudgeBoundaries::coversWithOrWithoutOthers);
        test("-1 when there is none", NetJudgeBoundaries::coversNone);
        test("so also when a bit is set for a number that is no place", NetJudgeBoundaries::coversForeign);
        test("or the net is UNSAFE", NetJudgeBoundaries::coversInUnsafe);

        enter(document, "Promise 9: firstFiring");
        test("The least number of firings", NetJudgeBoundaries::firstFiringByTheShorterRun);
        test("(1 or more)", NetJudgeBoundaries::firstFiringAtOnce);
        test("-1 when t never can fire", NetJudgeBoundaries::firstFiringNever);
        test("there is no transition t", NetJudgeBoundaries::firstFiringAbsent);
        test("there is no transition t", NetJudgeBoundaries::firstFiringOutside);
        test("or the net is UNSAFE", NetJudgeBoundaries::firstFiringInUnsafe);

        enter(document, "Promise 10: together");
        test("in some reachable marking", NetJudgeBoundaries::togetherAtOnceOrLate);
        test("are both ready", NetJudgeBoundaries::togetherOnlyInTurns);
        test("share no place", NetJudgeBoundaries::togetherSharing);
        test("False when t = u", NetJudgeBoundaries::togetherWithItself);
        test("when one of them is not present", NetJudgeBoundaries::togetherAbsent);
        test("when one of them is not present", NetJudgeBoundaries::togetherOutside);
        test("and when the net is UNSAFE", NetJudgeBoundaries::togetherInUnsafe);

        enter(document, "Promise 11: deadlock");
        test("The least distance of a reachable marking", NetJudgeBoundaries::deadlockNearest);
        test("in which no transition is ready", NetJudgeBoundaries::deadlockWithoutTransitions);
        test("in which no transition is ready", NetJudgeBoundaries::deadlockOfTheEmptyMarking);
        test("in which no transition is ready", NetJudgeBoundaries::deadlockWithOneReady);
        test("-1 when there is none", NetJudgeBoundaries::deadlockNone);
        test("or the net is UNSAFE", NetJudgeBoundaries::deadlockInUnsafe);

        enter(document, "Promise 12: deadMarking");
        test("the distance that deadlock() answers", NetJudgeBoundaries::deadMarkingNotTheFartherOne);
        test("in which no transition is ready", NetJudgeBoundaries::deadMarkingNotOneThatGoesOn);
        test("the least as a number", NetJudgeBoundaries::deadMarkingLeastNumber);
        test("the least as a number", NetJudgeBoundaries::deadMarkingEmptyAndFull);
        test("-1 when deadlock() is -1", NetJudgeBoundaries::deadMarkingNone);
        test("-1 when deadlock() is -1", NetJudgeBoundaries::deadMarkingInUnsafe);

        enter(document, "Promise 13: fire");
        test("when t is present", NetJudgeBoundaries::fireAbsent);
        test("when t is present", NetJudgeBoundaries::fireTooSmall);
        test("when t is present", NetJudgeBoundaries::fireTooLarge);
        test("when t is present", NetJudgeBoundaries::fireIntEnds);
        test("clear in the current marking", NetJudgeBoundaries::fireNotReady);
        test("clear in the current marking", NetJudgeBoundaries::fireReadyButNotClear);
        test("and answers true", NetJudgeBoundaries::fireThatMovesNothing);
        test("Works in UNSAFE nets too.", NetJudgeBoundaries::fireInUnsafe);

        enter(document, "Promise 14: current");
        test("The current marking of the game.", NetJudgeBoundaries::currentEmptyAndFull);
        test("The current marking of the game.", NetJudgeBoundaries::currentInUnsafe);

        enter(document, "Promise 15: enabled");
        test("bit t is set when t is", NetJudgeBoundaries::enabledNone);
        test("bit t is set when t is", NetJudgeBoundaries::enabledEachAlone);
        test("bit t is set when t is", NetJudgeBoundaries::enabledAllEight);
        test("that are clear in the current marking", NetJudgeBoundaries::enabledNotWhenOnlyReady);

        enter(document, "Promise 16: rewind");
        test("Makes the initial marking the current marking", NetJudgeBoundaries::rewindAtTheStart);
        test("Makes the initial marking the current marking", NetJudgeBoundaries::rewindAfterPlay);
        test("Makes the initial marking the current marking", NetJudgeBoundaries::rewindToTheLatestInitial);
        test("Makes the initial marking the current marking", NetJudgeBoundaries::rewindInUnsafe);

        everyPromiseIsTested(document);
        System.out.println(tests + " boundary tests, " + wrong + " answers are not as due");
        if (wrong != 0) System.exit(1);
    }

    // How a test is told and counted.

    private static Map<String, String> sections() throws IOException {
        Map<String, String> found = new LinkedHashMap<>();
        for (String part : Files.readString(DOCUMENT).split("(?m)^## ")) {
            String[] headAndText = part.split("\n", 2);
            found.put(headAndText[0].trim(), headAndText.length < 2 ? "" : headAndText[1].replaceAll("\\s+", " "));
        }
        return found;
    }

    private static void enter(Map<String, String> document, String name) {
        section = name;
        sectionText = document.getOrDefault(name, "");
        tested.add(name);
    }

    private static void test(String words, Runnable body) {
        tests++;
        where = section + ", \"" + words + "\"";
        due("the document has these words", sectionText.contains(words), true);
        try {
            body.run();
        } catch (RuntimeException thrown) {
            // No call may throw; one that does must not keep the other tests from being run.
            wrong++;
            System.out.println(where + ": " + thrown);
        }
    }

    private static void everyPromiseIsTested(Map<String, String> document) {
        for (String name : document.keySet()) {
            where = name;
            if (name.startsWith("Promise ")) due("has a test", tested.contains(name), true);
        }
    }

    private static void due(String what, long got, long want) {
        if (got != want) {
            wrong++;
            System.out.println(where + ": " + what + " answered " + got + ", due is " + want);
        }
    }

    private static void due(String what, boolean got, boolean want) {
        due(what, got ? 1 : 0, want ? 1 : 0);
    }

    // The nets.

    // arcs: pre and post of transition 0, then of transition 1, and so on
    private static NetJudge net(int places, int initial, int... arcs) {
        NetJudge x = new NetJudge(places, initial);
        for (int i = 0; i < arcs.length; i += 2) {
            due("a net is made: setTransition(" + i / 2 + ")", x.setTransition(i / 2, arcs[i], arcs[i + 1]), true);
        }
        return x;
    }

    private static NetJudge played(NetJudge x, int... run) {
        for (int t : run) {
            due("a game is played: fire(" + t + ")", x.fire(t), true);
        }
        return x;
    }

    // a token goes round places 0, 1, 2, 3
    private static NetJudge ring() {
        return net(4, 1, 1, 2, 2, 4, 4, 8, 8, 1);
    }

    // t0 splits the token of place 0 into 1 and 2; t1 and t2 move the halves to 3 and 4; t3 joins them in 5
    private static NetJudge fork() {
        return net(6, 1, 1, 6, 2, 8, 4, 16, 24, 32);
    }

    // eight transitions, each clear in the full marking, which take a token away as long as the one before it is there
    private static NetJudge eight() {
        return net(6, 63, 3, 1, 6, 2, 12, 4, 24, 8, 48, 16, 33, 32, 3, 2, 6, 4);
    }

    // eight transitions that take the token of place 0 and put it back
    private static NetJudge eightLoops(int places, int initial) {
        return net(places, initial, 1, 1, 1, 1, 1, 1, 1, 1, 1, 1, 1, 1, 1, 1, 1, 1);
    }

    // from place 0 to dead 16 or dead 4 in two firings, or over place 5 to dead 2 in three
    private static NetJudge threeEnds() {
        return net(6, 1, 1, 8, 8, 16, 8, 4, 8, 32, 32, 2);
    }

    // unsafe at once: t0 would move the token of place 0 onto that of place 1
    private static NetJudge clash() {
        return net(3, 3, 1, 2, 2, 4);
    }

    // unsafe first in marking 3, at distance 5: t0 would put a token onto that of place 1
    private static NetJudge lateClash() {
        return net(6, 1, 1, 6, 2, 8, 4, 16, 24, 32, 32, 3);
    }

    // unsafe in marking 12, though marking 2 is reachable and dead
    private static NetJudge clashBesideADeadEnd() {
        return net(4, 1, 1, 2, 1, 12, 8, 4);
    }

    private static NetJudge fullClash() {
        return net(6, 63, 1, 2);
    }

    private static List<NetJudge> unsafeNets() {
        List<NetJudge> nets = List.of(clash(), lateClash(), clashBesideADeadEnd(), fullClash());
        for (NetJudge x : nets) {
            due("verdict of a net that is unsafe", x.verdict(), NetJudge.UNSAFE);
        }
        return nets;
    }

    // a game under way in a net with so many places; transitions 1 .. 6 are absent
    private static NetJudge toAndFro(int places) {
        int last = 1 << (places - 1);
        NetJudge x = new NetJudge(places, 1);
        due("to and fro: setTransition(0)", x.setTransition(0, 1, last), true);
        due("to and fro: setTransition(7)", x.setTransition(7, last, 1), true);
        return played(x, 0);
    }

    private static int all(int places) {
        return (1 << places) - 1;
    }

    // sets with a bit, at any height, for a number that is no place
    private static int[] foreignSets(int places) {
        int[] others = {-1, -2, LEAST, LEAST + 1, GREATEST, GREATEST - 1, ~all(places), 1 << 30 | LEAST};
        int[] sets = new int[2 * (32 - places) + others.length];
        int n = 0;
        for (int bit = places; bit < 32; bit++) {
            sets[n++] = 1 << bit;
            sets[n++] = 1 << bit | 1;
        }
        for (int set : others) {
            sets[n++] = set;
        }
        return sets;
    }

    // Refused calls: an object that has had one answers in all things as its twin that has not.

    private static void refused(String call, Supplier<NetJudge> maker, Predicate<NetJudge> made) {
        NetJudge x = maker.get();
        NetJudge twin = maker.get();
        due(call, made.test(x), false);
        sameAnswers("after " + call, x, twin);
    }

    private static void refusedEverywhere(String call, Predicate<NetJudge> made) {
        refused(call + " in a new net", () -> new NetJudge(4, 5), made);
        refused(call + " in a game", () -> played(fork(), 0, 1), made);
        refused(call + " with all eight", () -> played(eight(), 0, 2), made);
        refused(call + " in an unsafe net", () -> played(clash(), 1), made);
    }

    // Some 440 calls, so that an object that comes here after a few dozen stays below 512.
    private static void sameAnswers(String when, NetJudge x, NetJudge twin) {
        due(when + ": current()", x.current(), twin.current());
        due(when + ": enabled()", x.enabled(), twin.enabled());
        due(when + ": verdict()", x.verdict(), twin.verdict());
        due(when + ": markings()", x.markings(), twin.markings());
        due(when + ": deadlock()", x.deadlock(), twin.deadlock());
        due(when + ": deadMarking()", x.deadMarking(), twin.deadMarking());
        for (int m = 0; m < 64; m++) {
            due(when + ": distance(" + m + ")", x.distance(m), twin.distance(m));
            due(when + ": covers(" + m + ")", x.covers(m), twin.covers(m));
        }
        for (int t = 0; t < 8; t++) {
            due(when + ": firstFiring(" + t + ")", x.firstFiring(t), twin.firstFiring(t));
            for (int u = 0; u < t; u++) {
                due(when + ": together(" + t + ", " + u + ")", x.together(t, u), twin.together(t, u));
            }
        }
        x.rewind();
        twin.rewind();
        due(when + ", rewound: current()", x.current(), twin.current());
        sameTransitions(when, x, twin);
    }

    // In an unsafe net only the game shows what the transitions are, so it is begun in every marking.
    private static void sameTransitions(String when, NetJudge x, NetJudge twin) {
        for (int m = 0; m < 64; m++) {
            int t = (m + m / 8) % 8;
            String then = when + ", from " + m + ": ";
            due(then + "setInitial", x.setInitial(m), twin.setInitial(m));
            due(then + "enabled()", x.enabled(), twin.enabled());
            due(then + "fire(" + t + ")", x.fire(t), twin.fire(t));
            due(then + "current()", x.current(), twin.current());
        }
        for (int t = 0; t < 8; t++) {
            due(when + ": dropTransition(" + t + ")", x.dropTransition(t), twin.dropTransition(t));
        }
    }

    // What it is

    private static void call512AfterFirings() {
        NetJudge x = ring();
        for (int i = 0; i < 507; i++) {
            due("fire, call " + (i + 5), x.fire(i % 4), true);
        }
        due("current(), call 512", x.current(), 1 << 507 % 4);
    }

    private static void call512AfterChanges() {
        NetJudge x = new NetJudge(6, 1);
        for (int i = 0; i < 511; i++) {
            int t = i / 2 % 8;
            boolean changed = i % 2 == 0 ? x.setTransition(t, 1, 2) : x.dropTransition(t);
            due("a change, call " + (i + 1), changed, true);
        }
        due("firstFiring(7), call 512", x.firstFiring(7), 1);
    }

    // Terms

    private static void firstAndLastPlace() {
        for (int places = 1; places <= 6; places++) {
            NetJudge x = new NetJudge(places, 0);
            due("place 0 of " + places, x.setInitial(1), true);
            due("the last place of " + places, x.setInitial(1 << (places - 1)), true);
            due("a place after the last of " + places, x.setInitial(1 << places), false);
        }
    }

    private static void emptyMarking() {
        for (int places = 1; places <= 6; places++) {
            NetJudge x = new NetJudge(places, 0);
            due("current()", x.current(), 0);
            due("distance(0)", x.distance(0), 0);
            due("distance of the full one", x.distance(all(places)), -1);
        }
    }

    private static void fullMarking() {
        for (int places = 1; places <= 6; places++) {
            NetJudge x = new NetJudge(places, all(places));
            due("current()", x.current(), all(places));
            due("distance of the full one", x.distance(all(places)), 0);
            due("distance(0)", x.distance(0), -1);
        }
    }

    private static void allEightTransitions() {
        int[] taken = {2, 4, 8, 16, 32, 1, 1, 2};
        NetJudge x = eight();
        for (int t = 0; t < 8; t++) {
            due("fire(" + t + ")", x.fire(t), true);
            due("current() after " + t, x.current(), 63 & ~taken[t]);
            due("firstFiring(" + t + ")", x.firstFiring(t), 1);
            x.rewind();
        }
    }

    private static void oneOrTwoPlaces() {
        for (int pre = 0; pre < 64; pre++) {
            NetJudge x = new NetJudge(6, 42);
            for (int post = 0; post < 64; post++) {
                boolean right = isOneOrTwo(Integer.bitCount(pre)) && isOneOrTwo(Integer.bitCount(post));
                due("setTransition(3, " + pre + ", " + post + ")", x.setTransition(3, pre, post), right);
            }
        }
    }

    private static boolean isOneOrTwo(int count) {
        return count == 1 || count == 2;
    }

    private static void sharedPlaces() {
        NetJudge x = net(3, 3, 3, 6, 3, 3, 1, 1, 1, 3, 3, 2);
        int[] next = {6, 3, 3, 3, 2};
        for (int t = 0; t < 5; t++) {
            x.rewind();
            due("fire(" + t + ")", x.fire(t), t != 3);
            due("current() after " + t, x.current(), next[t]);
        }
    }

    private static void readyWantsAllOfPre() {
        NetJudge x = net(6, 0, 18, 18, 4, 4);
        for (int m = 0; m < 64; m++) {
            x.setInitial(m);
            due("enabled() in " + m, x.enabled(), ((m & 18) == 18 ? 1 : 0) | ((m & 4) == 4 ? 2 : 0));
        }
    }

    private static void clearWantsAllOfPostFree() {
        NetJudge x = net(6, 0, 1, 6, 24, 32);
        for (int m = 0; m < 64; m++) {
            x.setInitial(m);
            due("enabled() in " + m, x.enabled(), ((m & 7) == 1 ? 1 : 0) | ((m & 56) == 24 ? 2 : 0));
        }
    }

    private static void clearPassesOverSharedPlaces() {
        NetJudge x = net(6, 0, 3, 6, 8, 24, 32, 32);
        for (int m = 0; m < 64; m++) {
            x.setInitial(m);
            int clear = ((m & 7) == 3 ? 1 : 0) | ((m & 24) == 8 ? 2 : 0) | ((m & 32) == 32 ? 4 : 0);
            due("enabled() in " + m, x.enabled(), clear);
        }
    }

    private static void nextMarking() {
        NetJudge x = net(6, 0, 3, 6);
        for (int m = 0; m < 64; m++) {
            x.setInitial(m);
            boolean clear = (m & 7) == 3;
            due("fire(0) in " + m, x.fire(0), clear);
            due("current() after " + m, x.current(), clear ? m - 3 + 6 : m);
        }
    }

    private static void initialAloneIsReachable() {
        NetJudge x = new NetJudge(6, 0);
        for (int m = 0; m < 64; m++) {
            x.setInitial(m);
            due("markings() from " + m, x.markings(), 1);
            due("distance(" + m + ")", x.distance(m), 0);
        }
    }

    private static void allButTheEmptyAreReachable() {
        NetJudge x = eight();
        for (int m = 1; m < 64; m++) {
            due("distance(" + m + ")", x.distance(m), 6 - Integer.bitCount(m));
        }
        due("distance(0)", x.distance(0), -1);
    }

    private static void noOthersAreReachable() {
        // t0 is ready in half of all markings, but the token of place 1 never comes to place 0
        NetJudge x = net(6, 2, 1, 8, 2, 4);
        for (int m = 0; m < 64; m++) {
            due("distance(" + m + ")", x.distance(m), m == 2 ? 0 : m == 4 ? 1 : -1);
        }
    }

    private static void clashInTheInitialMarking() {
        due("verdict()", fullClash().verdict(), NetJudge.UNSAFE);
        due("verdict()", net(2, 3, 1, 2).verdict(), NetJudge.UNSAFE);
    }

    private static void clashInTheFarthestMarking() {
        due("verdict() without the last transition", fork().verdict(), NetJudge.SAFE);
        due("verdict() with it", lateClash().verdict(), NetJudge.UNSAFE);
    }

    private static void clashOutOfReach() {
        // t0 would clash in marking 3 and its like, which no run meets
        NetJudge x = net(3, 1, 1, 2, 2, 1);
        due("verdict()", x.verdict(), NetJudge.SAFE);
        due("setInitial(3)", x.setInitial(3), true);
        due("verdict() where it is within reach", x.verdict(), NetJudge.UNSAFE);
    }

    private static void clashOfOneTransitionAlone() {
        for (int t = 0; t < 8; t++) {
            NetJudge x = eightLoops(2, 3);
            due("verdict() of loops", x.verdict(), NetJudge.SAFE);
            due("setTransition(" + t + ", 1, 2)", x.setTransition(t, 1, 2), true);
            due("verdict() when " + t + " clashes", x.verdict(), NetJudge.UNSAFE);
        }
    }

    private static void leastNumberOfFirings() {
        NetJudge x = ring();
        due("distance(8) the long way", x.distance(8), 3);
        due("setTransition(7, 1, 8)", x.setTransition(7, 1, 8), true);
        due("distance(8) the short way", x.distance(8), 1);
        due("distance(4)", x.distance(4), 2);
        // the long way to 8 goes over lesser numbers than the short one, so that a search in their order meets it first
        NetJudge y = net(5, 1, 1, 2, 2, 4, 4, 8, 1, 16, 16, 8);
        due("distance(8) over 16", y.distance(8), 2);
    }

    // Found by trial, which met no safe net with a distance greater than 15.
    private static void greatDistance() {
        NetJudge x = net(6, 35, 18, 6, 20, 8, 20, 1, 24, 10, 6, 5, 40, 9, 1, 16, 10, 3);
        int[] run = {6, 0, 4, 6, 1, 5, 6, 3, 7, 6, 0, 4, 6, 2, 6};
        int[] met = {35, 50, 38, 37, 52, 40, 9, 24, 10, 3, 18, 6, 5, 20, 1, 16};
        for (int i = 0; i < run.length; i++) {
            due("distance(" + met[i] + ")", x.distance(met[i]), i);
            due("fire(" + run[i] + ")", x.fire(run[i]), true);
            due("current()", x.current(), met[i + 1]);
        }
        due("distance(16)", x.distance(16), 15);
        due("markings()", x.markings(), 19);
        due("firstFiring(7)", x.firstFiring(7), 9);
        due("deadlock()", x.deadlock(), 6);
        due("deadMarking()", x.deadMarking(), 48);
    }

    private static void initialMarkingHasDistanceZero() {
        NetJudge x = played(ring(), 0, 1, 2, 3);
        due("distance(1), come back to", x.distance(1), 0);
        due("distance(1) with a loop", net(1, 1, 1, 1).distance(1), 0);
    }

    private static void gameStartsAsInitial() {
        for (int m = 0; m < 64; m++) {
            due("current() of a new net", new NetJudge(6, m).current(), m);
        }
    }

    // Promise 1

    private static void newObjectHasNoTransitions() {
        for (int initial : new int[] {0, 1, 63}) {
            NetJudge x = new NetJudge(6, initial);
            due("enabled()", x.enabled(), 0);
            due("deadlock()", x.deadlock(), 0);
            for (int t = 0; t < 8; t++) {
                due("fire(" + t + ")", x.fire(t), false);
                due("firstFiring(" + t + ")", x.firstFiring(t), -1);
                due("dropTransition(" + t + ")", x.dropTransition(t), false);
            }
        }
    }

    private static void hasPlaces(String asked, NetJudge x, int places) {
        due(asked + ": current() with all bits", x.current(), all(places));
        due(asked + ": the last place", x.setInitial(1 << (places - 1)), true);
        due(asked + ": one place more", x.setInitial(1 << places), false);
        due(asked + ": a transition at the last place", x.setTransition(0, 1 << (places - 1), 1), true);
        due(asked + ": a transition one place farther", x.setTransition(0, 1, 1 << places), false);
    }

    private static void tooFewPlaces() {
        // some of these come to 2 .. 6 under a mask, a cast or a sign turned
        for (int places : new int[] {0, -1, -3, -6, -27, -59, -251, -65531, LEAST, LEAST + 4}) {
            hasPlaces("NetJudge(" + places + ")", new NetJudge(places, -1), 1);
        }
    }

    private static void tooManyPlaces() {
        for (int places : new int[] {7, 8, 9, 30, 31, 32, 33, 35, 64, 67, 259, 65539, GREATEST - 1, GREATEST}) {
            hasPlaces("NetJudge(" + places + ")", new NetJudge(places, -1), 6);
        }
    }

    private static void placesWithinTheBounds() {
        for (int places = 1; places <= 6; places++) {
            hasPlaces("NetJudge(" + places + ")", new NetJudge(places, -1), places);
        }
    }

    private static void newObjectIgnoresForeignBits() {
        for (int places = 1; places <= 6; places++) {
            for (int initial : foreignSets(places)) {
                NetJudge twin = new NetJudge(places, initial & all(places));
                sameAnswers("NetJudge(" + places + ", " + initial + ")", new NetJudge(places, initial), twin);
            }
        }
        due("one place for 0: current()", new NetJudge(0, 2).current(), 0);
        due("six places for 7: current()", new NetJudge(7, 64 | 32).current(), 32);
    }

    private static void newObjectEmptyOrFull() {
        for (int places = 1; places <= 6; places++) {
            for (int initial : new int[] {0, all(places)}) {
                NetJudge x = new NetJudge(places, initial);
                due("current()", x.current(), initial);
                due("distance(" + initial + ")", x.distance(initial), 0);
                due("deadMarking()", x.deadMarking(), initial);
            }
        }
    }

    // Promise 2

    private static void setAbsentTransition() {
        for (int t = 0; t < 8; t++) {
            NetJudge x = new NetJudge(6, 1);
            due("setTransition(" + t + ")", x.setTransition(t, 1, 32), true);
            due("enabled()", x.enabled(), 1 << t);
            due("distance(32)", x.distance(32), 1);
        }
    }

    private static void setPresentTransition() {
        for (int t = 0; t < 8; t++) {
            NetJudge x = eight();
            due("setTransition(" + t + ", 32, 32)", x.setTransition(t, 32, 32), true);
            due("fire(" + t + ")", x.fire(t), true);
            due("current(), the old post gone", x.current(), 63);
            x.setInitial(32);
            due("enabled(), the old pre gone", x.enabled(), 1 << t);
        }
    }

    private static void setTransitionRewinds() {
        NetJudge x = played(ring(), 0, 1);
        due("the same sets again", x.setTransition(0, 1, 2), true);
        due("current()", x.current(), 1);
        played(x, 0, 1);
        due("other sets", x.setTransition(3, 8, 2), true);
        due("current()", x.current(), 1);
        played(x, 0, 1);
        due("an absent one", x.setTransition(7, 8, 2), true);
        due("current()", x.current(), 1);
        NetJudge y = played(clash(), 1, 0);
        due("in an unsafe net", y.setTransition(0, 1, 2), true);
        due("current()", y.current(), 3);
    }

    // every set of one or two of the bits 0 .. 31, in every size of net
    private static void setTransitionAcceptsAllThatIsRight() {
        for (int places = 1; places <= 6; places++) {
            for (int p = 0; p < 32; p++) {
                NetJudge x = new NetJudge(places, 1);
                for (int q = p; q < 32; q++) {
                    int set = 1 << p | 1 << q;
                    int t = q % 8;
                    due("pre " + set + " of " + places, x.setTransition(t, set, 1), q < places);
                    due("post " + set + " of " + places, x.setTransition(t, 1, set), q < places);
                }
            }
        }
    }

    private static void setRefused(int t) {
        refusedEverywhere("setTransition(" + t + ", 2, 1)", x -> x.setTransition(t, 2, 1));
    }

    private static void setTransitionTooSmall() {
        for (int t : TOO_SMALL) setRefused(t);
    }

    private static void setTransitionTooLarge() {
        for (int t : TOO_LARGE) setRefused(t);
    }

    private static void setTransitionIntEnds() {
        for (int t : INT_ENDS) setRefused(t);
    }

    private static void setForeignPre() {
        for (int places = 1; places <= 6; places++) {
            int size = places;
            for (int pre : foreignSets(places)) {
                refused("setTransition(0, " + pre + ", 1)", () -> toAndFro(size), x -> x.setTransition(0, pre, 1));
            }
        }
    }

    private static void setForeignPost() {
        for (int places = 1; places <= 6; places++) {
            int size = places;
            int last = 1 << (places - 1);
            for (int post : foreignSets(places)) {
                String call = "setTransition(0, " + last + ", " + post + ")";
                refused(call, () -> toAndFro(size), x -> x.setTransition(0, last, post));
            }
        }
    }

    private static void setEmptyPre() {
        refusedEverywhere("setTransition(0, 0, 1)", x -> x.setTransition(0, 0, 1));
        refusedEverywhere("setTransition(1, 0, 3)", x -> x.setTransition(1, 0, 3));
    }

    private static void setEmptyPost() {
        refusedEverywhere("setTransition(0, 2, 0)", x -> x.setTransition(0, 2, 0));
        refusedEverywhere("setTransition(1, 3, 0)", x -> x.setTransition(1, 3, 0));
    }

    private static void setPreOfThreeOrMore() {
        for (int set = 0; set < 64; set++) {
            int pre = set;
            if (Integer.bitCount(pre) < 3) continue;
            refused("setTransition(1, " + pre + ", 1)", () -> played(fork(), 0, 1), x -> x.setTransition(1, pre, 1));
        }
        refusedEverywhere("setTransition(0, 7, 1)", x -> x.setTransition(0, 7, 1));
    }

    private static void setPostOfThreeOrMore() {
        for (int set = 0; set < 64; set++) {
            int post = set;
            if (Integer.bitCount(post) < 3) continue;
            refused("setTransition(1, 4, " + post + ")", () -> played(fork(), 0, 1), x -> x.setTransition(1, 4, post));
        }
        refusedEverywhere("setTransition(0, 2, 7)", x -> x.setTransition(0, 2, 7));
    }

    private static void setAbsentRefusedStaysAbsent() {
        int[] wrongSets = {0, 7, 63, 64, 65, LEAST, -1};
        for (int set : wrongSets) {
            NetJudge x = played(fork(), 0, 1);
            due("setTransition(7, " + set + ", 1)", x.setTransition(7, set, 1), false);
            due("setTransition(7, 8, " + set + ")", x.setTransition(7, 8, set), false);
            due("current()", x.current(), 12);
            due("enabled()", x.enabled(), 4);
            due("fire(7)", x.fire(7), false);
            due("firstFiring(7)", x.firstFiring(7), -1);
            due("dropTransition(7)", x.dropTransition(7), false);
            due("current() still", x.current(), 12);
        }
    }

    private static void setAllWrongAtOnce() {
        refusedEverywhere("setTransition(-1, 0, 64)", x -> x.setTransition(-1, 0, 64));
        refusedEverywhere("setTransition(8, LEAST, GREATEST)", x -> x.setTransition(8, LEAST, GREATEST));
        refusedEverywhere("setTransition(0, 0, 0)", x -> x.setTransition(0, 0, 0));
        refusedEverywhere("setTransition(0, -1, -1)", x -> x.setTransition(0, -1, -1));
    }

    // Promise 3

    private static void dropEachOfEight() {
        for (int t = 0; t < 8; t++) {
            NetJudge x = eight();
            due("dropTransition(" + t + ")", x.dropTransition(t), true);
            due("enabled()", x.enabled(), 255 & ~(1 << t));
            due("fire(" + t + ")", x.fire(t), false);
            due("firstFiring(" + t + ")", x.firstFiring(t), -1);
        }
    }

    private static void dropTheOnlyOne() {
        NetJudge x = eight();
        for (int t = 0; t < 8; t++) {
            due("dropTransition(" + t + ")", x.dropTransition(t), true);
        }
        sameAnswers("all eight dropped", x, new NetJudge(6, 63));
    }

    private static void dropTransitionRewinds() {
        NetJudge x = played(ring(), 0, 1);
        due("dropTransition(3)", x.dropTransition(3), true);
        due("current()", x.current(), 1);
        NetJudge y = played(clash(), 1, 0);
        due("dropTransition(0) in an unsafe net", y.dropTransition(0), true);
        due("current()", y.current(), 3);
    }

    private static void dropAbsent() {
        for (int absent = 0; absent < 8; absent++) {
            int t = absent;
            refused("dropTransition(" + t + ") in a new net", () -> new NetJudge(4, 5), x -> x.dropTransition(t));
            if (t > 0 && t < 7) {
                refused("dropTransition(" + t + ") in a game", () -> toAndFro(6), x -> x.dropTransition(t));
            }
            if (t > 1) {
                refused("dropTransition(" + t + "), unsafe", () -> played(clash(), 1), x -> x.dropTransition(t));
            }
        }
    }

    private static void dropTwice() {
        for (int dropped = 0; dropped < 8; dropped++) {
            int t = dropped;
            Supplier<NetJudge> sevenLeft = () -> {
                NetJudge x = eight();
                due("dropTransition(" + t + ")", x.dropTransition(t), true);
                return played(x, (t + 1) % 8);
            };
            refused("dropTransition(" + t + ") again", sevenLeft, x -> x.dropTransition(t));
        }
    }

    private static void dropRefused(int t) {
        refusedEverywhere("dropTransition(" + t + ")", x -> x.dropTransition(t));
    }

    private static void dropTooSmall() {
        for (int t : TOO_SMALL) dropRefused(t);
    }

    private static void dropTooLarge() {
        for (int t : TOO_LARGE) dropRefused(t);
    }

    private static void dropIntEnds() {
        for (int t : INT_ENDS) dropRefused(t);
    }

    // Promise 4

    private static void setInitialEmpty() {
        for (int places = 1; places <= 6; places++) {
            NetJudge x = toAndFro(places);
            due("setInitial(0) of " + places, x.setInitial(0), true);
            due("current()", x.current(), 0);
            due("distance(0)", x.distance(0), 0);
            due("distance(1)", x.distance(1), -1);
        }
    }

    private static void setInitialFull() {
        for (int places = 1; places <= 6; places++) {
            NetJudge x = new NetJudge(places, 0);
            due("setInitial of all " + places, x.setInitial(all(places)), true);
            due("current()", x.current(), all(places));
            due("distance of the full one", x.distance(all(places)), 0);
            due("distance(0)", x.distance(0), -1);
        }
    }

    private static void setInitialRewinds() {
        NetJudge x = played(ring(), 0, 1);
        due("the same again", x.setInitial(1), true);
        due("current()", x.current(), 1);
        played(x, 0);
        due("the current one", x.setInitial(2), true);
        due("current()", x.current(), 2);
        due("distance(2)", x.distance(2), 0);
        played(x, 1);
        due("another", x.setInitial(8), true);
        due("current()", x.current(), 8);
        NetJudge y = played(clash(), 1, 0);
        due("in an unsafe net", y.setInitial(3), true);
        due("current()", y.current(), 3);
    }

    private static void setInitialForeign() {
        for (int places = 1; places <= 6; places++) {
            int size = places;
            for (int m : foreignSets(places)) {
                refused("setInitial(" + m + ") of " + places, () -> toAndFro(size), x -> x.setInitial(m));
            }
        }
        for (int m : foreignSets(6)) {
            refusedEverywhere("setInitial(" + m + ")", x -> x.setInitial(m));
        }
    }

    // Promise 5

    private static void verdictWithoutTransitions() {
        for (int m = 0; m < 64; m++) {
            due("verdict() of " + m, new NetJudge(6, m).verdict(), NetJudge.SAFE);
        }
    }

    private static void verdictOfTheEmptyMarking() {
        NetJudge x = net(6, 0, 1, 2, 2, 1, 4, 8, 8, 4, 16, 32, 32, 16, 3, 12, 12, 3);
        due("verdict()", x.verdict(), NetJudge.SAFE);
    }

    private static void verdictOfTheFullMarking() {
        NetJudge x = eight();
        due("verdict() when post lies within pre", x.verdict(), NetJudge.SAFE);
        due("setTransition(7, 16, 48)", x.setTransition(7, 16, 48), true);
        due("verdict() when one post place does not", x.verdict(), NetJudge.UNSAFE);
    }

    private static void verdictThereAndBack() {
        NetJudge x = ring();
        due("verdict()", x.verdict(), NetJudge.SAFE);
        x.setInitial(3);
        due("verdict() of two tokens", x.verdict(), NetJudge.UNSAFE);
        x.setInitial(1);
        due("verdict() of one again", x.verdict(), NetJudge.SAFE);
        x.setTransition(7, 8, 3);
        due("verdict() with one that doubles", x.verdict(), NetJudge.UNSAFE);
        x.setTransition(7, 8, 2);
        due("verdict() with another in its place", x.verdict(), NetJudge.SAFE);
        x.setTransition(6, 8, 3);
        due("verdict() with one that doubles", x.verdict(), NetJudge.UNSAFE);
        x.dropTransition(6);
        due("verdict() without it", x.verdict(), NetJudge.SAFE);
        due("markings()", x.markings(), 4);
    }

    // Promise 6

    private static void distanceOfUnreachable() {
        NetJudge x = ring();
        for (int m = 0; m < 64; m++) {
            boolean reachable = m == 1 || m == 2 || m == 4 || m == 8;
            due("distance(" + m + ")", x.distance(m), reachable ? Integer.numberOfTrailingZeros(m) : -1);
        }
    }

    private static void distanceOfEmptyAndFull() {
        NetJudge x = fork();
        due("distance(0)", x.distance(0), -1);
        due("distance(63)", x.distance(63), -1);
        x.setInitial(0);
        due("distance(0) from it", x.distance(0), 0);
        NetJudge y = eight();
        due("distance(63) from it", y.distance(63), 0);
        due("distance(0), out of reach", y.distance(0), -1);
    }

    private static void distanceOfForeign() {
        for (int places = 1; places <= 6; places++) {
            NetJudge x = toAndFro(places);
            NetJudge empty = new NetJudge(places, 0);
            NetJudge full = new NetJudge(places, -1);
            for (int m : foreignSets(places)) {
                due("distance(" + m + ") of " + places, x.distance(m), -1);
                due("distance(" + m + ") from the empty one", empty.distance(m), -1);
                due("distance(" + m + ") from the full one", full.distance(m), -1);
                due("distance of " + m + " with all places", full.distance(m | all(places)), -1);
            }
        }
    }

    private static void distanceOfNegative() {
        NetJudge x = eight();
        for (int m = 1; m <= 64; m++) {
            due("distance(" + -m + ")", x.distance(-m), -1);
            due("distance of LEAST + " + m, x.distance(LEAST + m), -1);
            due("distance of GREATEST - " + m, x.distance(GREATEST - m), -1);
        }
        due("distance of LEAST", x.distance(LEAST), -1);
        due("distance of GREATEST", x.distance(GREATEST), -1);
    }

    private static void distanceInUnsafe() {
        for (NetJudge x : unsafeNets()) {
            due("distance of the initial one", x.distance(x.current()), -1);
            for (int m = 0; m < 64; m++) {
                due("distance(" + m + ")", x.distance(m), -1);
            }
            for (int m : foreignSets(6)) {
                due("distance(" + m + ")", x.distance(m), -1);
            }
        }
    }

    // Promise 7

    private static void fewestMarkings() {
        due("markings() without transitions", new NetJudge(6, 63).markings(), 1);
        due("markings() of the empty one", new NetJudge(1, 0).markings(), 1);
        due("markings() with loops alone", net(1, 1, 1, 1, 1, 1).markings(), 1);
        NetJudge x = fork();
        x.setInitial(0);
        due("markings() from the empty one", x.markings(), 1);
    }

    // No firing leads to the empty marking, so that no net has all 64.
    private static void mostMarkings() {
        due("markings()", eight().markings(), 63);
    }

    private static void markingsInUnsafe() {
        for (NetJudge x : unsafeNets()) {
            due("markings()", x.markings(), 0);
        }
        NetJudge x = lateClash();
        due("dropTransition(4)", x.dropTransition(4), true);
        due("markings() when mended", x.markings(), 6);
    }

    // Promise 8

    private static void coversAtTheLeastDistance() {
        // of the two markings with place 2 the lesser number, 4, is the farther one
        NetJudge x = net(5, 3, 3, 24, 24, 4, 3, 20);
        due("distance(4)", x.distance(4), 2);
        due("distance(20)", x.distance(20), 1);
        due("covers(4)", x.covers(4), 1);
        // and here the greater number, 12, is the farther one
        NetJudge y = net(5, 1, 1, 4, 1, 16, 16, 12);
        due("distance(4)", y.distance(4), 1);
        due("distance(12)", y.distance(12), 2);
        due("covers(4)", y.covers(4), 1);
    }

    private static void coversTheEmptySet() {
        due("covers(0)", fork().covers(0), 0);
        due("covers(0) of the empty marking", new NetJudge(6, 0).covers(0), 0);
        due("covers(0) of the full marking", eight().covers(0), 0);
    }

    private static void coversTheFullSet() {
        due("covers(63) of the full marking", eight().covers(63), 0);
        due("covers(63) of less", fork().covers(63), -1);
        for (int places = 1; places <= 6; places++) {
            NetJudge x = new NetJudge(places, -1);
            due("covers all of " + places, x.covers(all(places)), 0);
            due("covers one more than " + places, x.covers(all(places + 1)), -1);
        }
    }

    private static void coversWithOrWithoutOthers() {
        NetJudge x = fork();
        due("covers(8), with place 2", x.covers(8), 2);
        due("covers(12), without others", x.covers(12), 2);
        due("covers(32), without others", x.covers(32), 4);
        NetJudge y = eight();
        for (int set = 0; set < 64; set++) {
            due("covers(" + set + ") with all others", y.covers(set), 0);
        }
    }

    private static void coversNone() {
        NetJudge x = fork();
        due("covers(33)", x.covers(33), -1);
        due("covers(10)", x.covers(10), -1);
        due("covers(1) of the empty marking", new NetJudge(6, 0).covers(1), -1);
    }

    private static void coversForeign() {
        for (int places = 1; places <= 6; places++) {
            NetJudge x = toAndFro(places);
            NetJudge full = new NetJudge(places, -1);
            for (int set : foreignSets(places)) {
                due("covers(" + set + ") of " + places, x.covers(set), -1);
                due("covers(" + set + ") of all " + places, full.covers(set), -1);
            }
        }
    }

    private static void coversInUnsafe() {
        for (NetJudge x : unsafeNets()) {
            for (int set = 0; set < 64; set++) {
                due("covers(" + set + ")", x.covers(set), -1);
            }
            for (int set : foreignSets(6)) {
                due("covers(" + set + ")", x.covers(set), -1);
            }
        }
    }

    // Promise 9

    private static void firstFiringByTheShorterRun() {
        NetJudge x = ring();
        due("firstFiring(3)", x.firstFiring(3), 4);
        due("setTransition(4, 1, 8)", x.setTransition(4, 1, 8), true);
        due("firstFiring(3) by the short way", x.firstFiring(3), 2);
    }

    private static void firstFiringAtOnce() {
        due("firstFiring(0)", ring().firstFiring(0), 1);
        due("firstFiring(0) of a loop", net(1, 1, 1, 1).firstFiring(0), 1);
        NetJudge x = played(ring(), 0, 1, 2);
        due("firstFiring(0) in a game", x.firstFiring(0), 1);
        due("firstFiring(3) in a game", x.firstFiring(3), 4);
        for (int t = 0; t < 8; t++) {
            due("firstFiring(" + t + ") of eight", eight().firstFiring(t), 1);
        }
    }

    private static void firstFiringNever() {
        NetJudge x = fork();
        due("setTransition(7, 33, 2)", x.setTransition(7, 33, 2), true);
        due("firstFiring(7), half of pre at a time", x.firstFiring(7), -1);
        x.setInitial(0);
        due("firstFiring(0) from the empty marking", x.firstFiring(0), -1);
    }

    private static void firstFiringAbsent() {
        NetJudge x = fork();
        for (int t = 4; t < 8; t++) {
            due("firstFiring(" + t + ")", x.firstFiring(t), -1);
        }
        due("dropTransition(0)", x.dropTransition(0), true);
        due("firstFiring(0), dropped", x.firstFiring(0), -1);
    }

    private static void firstFiringOutside() {
        NetJudge x = eight();
        for (int t : TOO_SMALL) due("firstFiring(" + t + ")", x.firstFiring(t), -1);
        for (int t : TOO_LARGE) due("firstFiring(" + t + ")", x.firstFiring(t), -1);
        for (int t : INT_ENDS) due("firstFiring(" + t + ")", x.firstFiring(t), -1);
    }

    private static void firstFiringInUnsafe() {
        due("fire(1)", clash().fire(1), true);
        for (NetJudge x : unsafeNets()) {
            for (int t = -1; t <= 8; t++) {
                due("firstFiring(" + t + ")", x.firstFiring(t), -1);
            }
        }
    }

    // Promise 10

    private static void togetherAtOnceOrLate() {
        NetJudge x = net(4, 15, 3, 1, 12, 4);
        due("together(0, 1) at once", x.together(0, 1), true);
        due("together(1, 0) at once", x.together(1, 0), true);
        NetJudge y = fork();
        y.setTransition(6, 8, 8);
        y.setTransition(7, 16, 16);
        due("distance(24)", y.distance(24), 3);
        due("together(6, 7) in marking 24 alone", y.together(6, 7), true);
        due("together(7, 6) in marking 24 alone", y.together(7, 6), true);
    }

    private static void togetherOnlyInTurns() {
        NetJudge x = ring();
        for (int t = 0; t < 4; t++) {
            for (int u = 0; u < 4; u++) {
                due("together(" + t + ", " + u + ")", x.together(t, u), false);
            }
        }
        NetJudge y = fork();
        y.setInitial(0);
        due("together(1, 2) from the empty marking", y.together(1, 2), false);
    }

    private static void togetherSharing() {
        // all are ready in the full marking: 3 and 6 share a place, 3 and 12 share none, 3 and 3 share both
        NetJudge x = net(4, 15, 3, 1, 6, 2, 12, 4, 3, 2);
        due("together(0, 1)", x.together(0, 1), false);
        due("together(1, 0)", x.together(1, 0), false);
        due("together(0, 2)", x.together(0, 2), true);
        due("together(0, 3)", x.together(0, 3), false);
        NetJudge y = net(2, 3, 1, 1, 3, 3);
        due("together(0, 1), all of one", y.together(0, 1), false);
        due("together(1, 0), all of one", y.together(1, 0), false);
    }

    private static void togetherWithItself() {
        NetJudge x = eight();
        NetJudge y = fork();
        for (int t = -1; t <= 8; t++) {
            due("together(" + t + ", " + t + ") of eight", x.together(t, t), false);
            due("together(" + t + ", " + t + ")", y.together(t, t), false);
        }
        due("together of LEAST", x.together(LEAST, LEAST), false);
        due("together of GREATEST", x.together(GREATEST, GREATEST), false);
    }

    private static void togetherAbsent() {
        NetJudge x = fork();
        for (int t = 4; t < 8; t++) {
            due("together(1, " + t + ")", x.together(1, t), false);
            due("together(" + t + ", 1)", x.together(t, 1), false);
            due("together(" + t + ", 4)", x.together(t, 4), false);
        }
        due("together(1, 2)", x.together(1, 2), true);
        due("dropTransition(2)", x.dropTransition(2), true);
        due("together(1, 2), one dropped", x.together(1, 2), false);
        due("together(2, 1), one dropped", x.together(2, 1), false);
    }

    private static void neverTogether(NetJudge x, int[] numbers) {
        for (int t : numbers) {
            due("together(0, " + t + ")", x.together(0, t), false);
            due("together(" + t + ", 2)", x.together(t, 2), false);
            due("together(" + t + ", 9)", x.together(t, 9), false);
        }
    }

    private static void togetherOutside() {
        NetJudge x = eight();
        due("together(0, 2)", x.together(0, 2), true);
        neverTogether(x, TOO_SMALL);
        neverTogether(x, TOO_LARGE);
        neverTogether(x, INT_ENDS);
    }

    private static void togetherInUnsafe() {
        NetJudge x = net(4, 5, 1, 2, 4, 8);
        due("together(0, 1)", x.together(0, 1), true);
        due("setTransition(7, 1, 4)", x.setTransition(7, 1, 4), true);
        due("together(0, 1), unsafe", x.together(0, 1), false);
        for (NetJudge y : unsafeNets()) {
            for (int t = -1; t <= 8; t++) {
                for (int u = -1; u <= 8; u++) {
                    due("together(" + t + ", " + u + ")", y.together(t, u), false);
                }
            }
        }
    }

    // Promise 11

    private static void deadlockNearest() {
        NetJudge x = threeEnds();
        due("distance(2), dead too", x.distance(2), 3);
        due("deadlock()", x.deadlock(), 2);
        due("deadlock() of every other place", eight().deadlock(), 3);
    }

    private static void deadlockWithoutTransitions() {
        for (int m = 0; m < 64; m++) {
            due("deadlock() of " + m, new NetJudge(6, m).deadlock(), 0);
        }
    }

    private static void deadlockOfTheEmptyMarking() {
        NetJudge x = eight();
        x.setInitial(0);
        due("deadlock()", x.deadlock(), 0);
    }

    private static void deadlockWithOneReady() {
        for (int t = 0; t < 8; t++) {
            NetJudge x = new NetJudge(2, 1);
            due("setTransition(" + t + ", 1, 1)", x.setTransition(t, 1, 1), true);
            due("deadlock() with a loop", x.deadlock(), -1);
            due("setTransition(" + t + ", 3, 1)", x.setTransition(t, 3, 1), true);
            due("deadlock() with half of pre", x.deadlock(), 0);
        }
    }

    private static void deadlockNone() {
        due("deadlock()", ring().deadlock(), -1);
        NetJudge x = threeEnds();
        x.setTransition(5, 16, 16);
        x.setTransition(6, 4, 4);
        due("deadlock() with one end left", x.deadlock(), 3);
        x.setTransition(7, 2, 2);
        due("deadlock() with no end left", x.deadlock(), -1);
    }

    private static void deadlockInUnsafe() {
        NetJudge x = played(clashBesideADeadEnd(), 0);
        due("enabled() at the dead end", x.enabled(), 0);
        due("deadlock()", x.deadlock(), -1);
        for (NetJudge y : unsafeNets()) {
            due("deadlock()", y.deadlock(), -1);
        }
    }

    // Promise 12

    private static void deadMarkingNotTheFartherOne() {
        NetJudge x = threeEnds();
        due("distance(2), less but farther", x.distance(2), 3);
        due("deadMarking()", x.deadMarking(), 4);
    }

    private static void deadMarkingNotOneThatGoesOn() {
        NetJudge x = threeEnds();
        due("setTransition(5, 4, 4)", x.setTransition(5, 4, 4), true);
        due("distance(4), less and as near", x.distance(4), 2);
        due("deadMarking()", x.deadMarking(), 16);
    }

    private static void deadMarkingLeastNumber() {
        due("deadMarking() of 4 and 16", threeEnds().deadMarking(), 4);
        // the same three ends at one distance, found in another order
        due("deadMarking() of 8, 2, 32", net(6, 1, 1, 8, 1, 2, 1, 32).deadMarking(), 2);
        due("deadMarking() of 32, 8, 2", net(6, 1, 1, 32, 1, 8, 1, 2).deadMarking(), 2);
        due("deadMarking() of 2, 32, 8", net(6, 1, 1, 2, 1, 32, 1, 8).deadMarking(), 2);
    }

    private static void deadMarkingEmptyAndFull() {
        NetJudge x = eight();
        x.setInitial(0);
        due("deadMarking() from the empty one", x.deadMarking(), 0);
        due("deadMarking() without transitions", new NetJudge(6, 0).deadMarking(), 0);
        due("deadMarking() of the full one", new NetJudge(6, 63).deadMarking(), 63);
    }

    private static void deadMarkingNone() {
        due("deadMarking()", ring().deadMarking(), -1);
        due("deadMarking() with a loop", net(1, 1, 1, 1).deadMarking(), -1);
    }

    private static void deadMarkingInUnsafe() {
        for (NetJudge x : unsafeNets()) {
            due("deadMarking()", x.deadMarking(), -1);
        }
    }

    // Promise 13

    private static void fireAbsent() {
        for (int absent = 1; absent < 7; absent++) {
            int t = absent;
            refused("fire(" + t + ")", () -> toAndFro(6), x -> x.fire(t));
            refused("fire(" + t + ") in a new net", () -> new NetJudge(6, 63), x -> x.fire(t));
        }
        NetJudge x = eight();
        due("dropTransition(7)", x.dropTransition(7), true);
        due("fire(7), dropped", x.fire(7), false);
        due("current()", x.current(), 63);
    }

    private static void fireRefused(int t) {
        refusedEverywhere("fire(" + t + ")", x -> x.fire(t));
    }

    private static void fireTooSmall() {
        for (int t : TOO_SMALL) fireRefused(t);
    }

    private static void fireTooLarge() {
        for (int t : TOO_LARGE) fireRefused(t);
    }

    private static void fireIntEnds() {
        for (int t : INT_ENDS) fireRefused(t);
    }

    private static void fireNotReady() {
        refused("fire(3), half of pre", () -> played(fork(), 0, 1), x -> x.fire(3));
        refused("fire(0), none of pre", () -> played(fork(), 0, 1), x -> x.fire(0));
        refused("fire(7), none of pre", () -> eightLoops(1, 0), x -> x.fire(7));
    }

    private static void fireReadyButNotClear() {
        refused("fire(0), the post place taken", () -> clash(), x -> x.fire(0));
        refused("fire(0), the first of two taken", () -> net(3, 3, 1, 6), x -> x.fire(0));
        refused("fire(0), the second of two taken", () -> net(3, 5, 1, 6), x -> x.fire(0));
        refused("fire(0), both taken", () -> net(3, 7, 1, 6), x -> x.fire(0));
        refused("fire(0), one shared and one taken", () -> net(3, 3, 1, 3), x -> x.fire(0));
    }

    private static void fireThatMovesNothing() {
        NetJudge x = net(2, 3, 1, 1, 3, 3);
        due("fire(0)", x.fire(0), true);
        due("fire(1)", x.fire(1), true);
        due("current()", x.current(), 3);
    }

    private static void fireInUnsafe() {
        NetJudge x = clash();
        due("verdict()", x.verdict(), NetJudge.UNSAFE);
        due("fire(1)", x.fire(1), true);
        due("current()", x.current(), 5);
        due("fire(0)", x.fire(0), true);
        due("current()", x.current(), 6);
        due("fire(1), not clear", x.fire(1), false);
        due("current()", x.current(), 6);
    }

    // Promise 14

    private static void currentEmptyAndFull() {
        NetJudge x = played(eight(), 0, 2);
        due("setInitial(0)", x.setInitial(0), true);
        due("current()", x.current(), 0);
        due("setInitial(63)", x.setInitial(63), true);
        due("current()", x.current(), 63);
    }

    private static void currentInUnsafe() {
        int[] initial = {3, 1, 1, 63};
        int i = 0;
        for (NetJudge x : unsafeNets()) {
            due("current()", x.current(), initial[i++]);
        }
        due("current() in the marking that clashes", played(lateClash(), 0, 1, 2, 3, 4).current(), 3);
    }

    // Promise 15

    private static void enabledNone() {
        due("enabled() without transitions", new NetJudge(6, 63).enabled(), 0);
        due("enabled() at the end", played(fork(), 0, 1, 2, 3).enabled(), 0);
        NetJudge x = eight();
        x.setInitial(0);
        due("enabled() in the empty marking", x.enabled(), 0);
    }

    private static void enabledEachAlone() {
        for (int t = 0; t < 8; t++) {
            NetJudge x = eightLoops(2, 2);
            due("setTransition(" + t + ", 2, 2)", x.setTransition(t, 2, 2), true);
            due("enabled()", x.enabled(), 1 << t);
        }
    }

    private static void enabledAllEight() {
        due("enabled()", eight().enabled(), 255);
        due("enabled() of loops", eightLoops(1, 1).enabled(), 255);
    }

    private static void enabledNotWhenOnlyReady() {
        due("enabled()", clash().enabled(), 2);
        due("enabled() of one that clashes", fullClash().enabled(), 0);
        due("enabled() where t0 clashes", played(lateClash(), 0, 1, 2, 3, 4).enabled(), 2);
    }

    // Promise 16

    private static void rewindAtTheStart() {
        NetJudge x = fork();
        x.rewind();
        sameAnswers("rewind() at the start", x, fork());
        NetJudge y = new NetJudge(3, 0);
        y.rewind();
        due("current() of the empty marking", y.current(), 0);
    }

    private static void rewindAfterPlay() {
        NetJudge x = played(fork(), 0, 1, 2, 3);
        x.rewind();
        sameAnswers("rewind() at the end", x, fork());
        NetJudge y = played(eight(), 0, 2, 4);
        y.rewind();
        y.rewind();
        sameAnswers("rewind() twice", y, eight());
    }

    private static void rewindToTheLatestInitial() {
        NetJudge x = ring();
        due("setInitial(4)", x.setInitial(4), true);
        played(x, 2);
        due("setInitial(16), refused", x.setInitial(16), false);
        x.rewind();
        due("current()", x.current(), 4);
    }

    private static void rewindInUnsafe() {
        NetJudge x = played(lateClash(), 0, 1, 2, 3, 4);
        x.rewind();
        due("current()", x.current(), 1);
        due("verdict()", x.verdict(), NetJudge.UNSAFE);
    }
}
