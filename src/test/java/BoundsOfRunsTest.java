/** Promises 9 and 10 and what "Terms" says of replanning: a test for each bound, with nodes counted by hand. */
public final class BoundsOfRunsTest {
    private static final Check check = new Check("BoundsOfRunsTest");

    public static void main(String[] args) {
        runNodes();
        runRefusedInVain();
        runHowManyChanged();
        runNothingFound();
        runWithoutHeats();
        roundNone();
        roundsFirstThatFinds();
        setsAreRising();
        setsOfHeatsNotFrozen();
        placesByNumbers();
        placesOfAWindow();
        placesOtherThanTheOldOne();
        placesByUnitsAndMinutes();
        nodesAreCounted();
        nodesGivenUp();
        nodesGivenUpWithThoseThatStay();
        stayingHeatsMustFit();
        stayingHeatsMustCostLess();
        stayingHeatsCostTogether();
        spentWithNothing();
        spentWithSomething();
        spentAtAnotherSet();
        spentAtMost();
        noRoundFindsOne();
        toldWhats();
        toldTurn();
        toldOfTheLatest();
        toldNumberNotFrozen();
        toldList();
        toldChangesNothing();
        check.end();
    }

    private static void told(String call, FewChanges x, int spent, int nodes, int round, int list) {
        check.due(call + ": told(0), spent", () -> x.told(0), spent);
        check.due(call + ": told(1), nodes", () -> x.told(1), nodes);
        check.due(call + ": told(2), round", () -> x.told(2), round);
        check.due(call + ": told(3), list", () -> x.told(3), list);
    }

    private static void stands(String call, FewChanges x, int heat, int unit, int minute) {
        check.due(call + ": unit of heat " + heat, () -> x.at(heat, 0), unit);
        check.due(call + ": minute of heat " + heat, () -> x.at(heat, 1), minute);
    }

    private static FewChanges withOrder(int due) {
        FewChanges x = new FewChanges();
        x.order(0, due);
        return x;
    }

    /** Six heats of one minute that unit 0 alone may take, at minutes 0, 10, .. 50, never late. */
    private static FewChanges sixHeats() {
        FewChanges x = withOrder(200);
        for (int heat = 0; heat < 6; heat++) {
            x.heat(0, 1, 1, 0, 10 * heat);
        }
        return x;
    }

    /** One heat of one minute that may be anywhere, hit on unit 0; 59 + 60 + 60 places are left. */
    private static FewChanges oneHit() {
        FewChanges x = withOrder(200);
        x.heat(0, 1, 7, 0, 0);
        x.stop(0, 0, 1);
        return x;
    }

    /**
     * Unit 0 has two windows of 10 minutes, which heats 1 (from 10) and 2 (from 45) fill; heat 0, at 30, is hit and may
     * be on unit 0 alone. The others may be on unit 1 too. Each heat has the order of its number, of the due minutes.
     */
    private static FewChanges twoWindows(int due0, int due1, int due2) {
        FewChanges x = withOrder(due0);
        x.order(0, due1);
        x.order(0, due2);
        x.heat(0, 10, 1, 0, 30);
        x.heat(1, 10, 3, 0, 10);
        x.heat(2, 10, 3, 0, 45);
        x.stop(0, 0, 10);
        x.stop(0, 20, 45);
        x.stop(0, 55, 60);
        return x;
    }

    /** Two heats of one minute at 20 and 21 of unit 0, both hit; minutes 10, 11 and 12 are all that is left to them. */
    private static FewChanges threeMinutes(int due0, int due1) {
        FewChanges x = withOrder(due0);
        x.order(0, due1);
        x.heat(0, 1, 1, 0, 20);
        x.heat(1, 1, 1, 0, 21);
        x.stop(0, 0, 10);
        x.stop(0, 13, 60);
        return x;
    }

    private static void runNodes() {
        check.sentence("9: Range: nodes (0 .. 100,000)");
        FewChanges x = oneHit();
        for (int nodes : Check.outside(0, 100000)) {
            check.refused("run(" + nodes + ")", () -> x.run(nodes), Check.RANGE);
        }
        stands("refused", x, 0, 0, 0);
        check.due("run(0)", () -> x.run(0), -1);
        check.due("run(1)", () -> x.run(1), 1);
        x.undo();
        check.due("run(99999)", () -> x.run(99999), 1);
        x.undo();
        check.due("run(100000)", () -> x.run(100000), 1);
    }

    private static void runRefusedInVain() {
        check.sentence("9: what is refused changes nothing");
        check.refusedInVain("run(-1)", World::some, x -> x.run(-1), Check.RANGE);
        check.refusedInVain("run(100001)", World::some, x -> x.run(100001), Check.RANGE);
        check.refusedInVain("run(-1) of a plan that is not good", BoundsOfRunsTest::hitWorld, x -> x.run(-1),
                Check.RANGE);
        check.refusedInVain("run(100001) of a plan that is not good", BoundsOfRunsTest::hitWorld,
                x -> x.run(100001), Check.RANGE);
    }

    private static FewChanges hitWorld() {
        FewChanges x = World.some();
        x.stop(1, 20, 21);
        return x;
    }

    /** Only the set of all that are hit leaves none that does not fit; heat i of it then has 54 - i places. */
    private static void runHowManyChanged() {
        check.sentence("9: how many heats changed (none to all)");
        for (int hit = 0; hit <= 6; hit++) {
            FewChanges x = sixHeats();
            for (int heat = 0; heat < hit; heat++) {
                x.stop(0, 10 * heat, 10 * heat + 1);
            }
            x.keep(0);
            int k = hit;
            check.due(k + " are hit", () -> x.run(100000), k);
            told(k + " are hit", x, 0, 54 * k - k * (k - 1) / 2, k, (1 << k) - 1);
            check.due(k + " are elsewhere", () -> x.compare(0), k);
            for (int heat = 0; heat < 6; heat++) {
                stands(k + " are hit", x, heat, 0, heat < hit ? heat + 1 : 10 * heat);
            }
        }
    }

    private static void runNothingFound() {
        check.sentence("9: -1 when nothing was found");
        FewChanges nowhere = withOrder(0);
        nowhere.heat(0, 1, 1, 0, 0);
        nowhere.stop(0, 0, 60);
        check.due("no place is left", () -> nowhere.run(100000), -1);
        told("no place is left", nowhere, 0, 0, 1, 0);
        nowhere.go();
        nowhere.stop(0, 0, 59);
        check.due("one place is left", () -> nowhere.run(100000), 1);
        told("one place is left", nowhere, 0, 1, 1, 1);
        stands("one place is left", nowhere, 0, 0, 59);
        FewChanges frozen = oneHit();
        frozen.clock(1, 0);
        check.due("it is frozen", () -> frozen.run(100000), -1);
        told("it is frozen", frozen, 0, 0, 0, 0);
        FewChanges spent = oneHit();
        check.due("no node is left", () -> spent.run(0), -1);
        told("no node is left", spent, 1, 0, 1, 0);
    }

    private static void runWithoutHeats() {
        check.sentence("9: Replans (no heats)");
        FewChanges x = new FewChanges();
        check.due("run(0)", () -> x.run(0), 0);
        told("run(0)", x, 0, 0, 0, 0);
        x.stop(0, 0, 60);
        x.clock(60, 60);
        check.due("run(100000)", () -> x.run(100000), 0);
        told("run(100000)", x, 0, 0, 0, 0);
    }

    private static void roundNone() {
        check.sentence("Terms: rounds k = 0, 1, .. (0 finds a plan that is good, and tries no place)");
        FewChanges x = withOrder(0);
        x.heat(0, 20, 7, 2, 40);
        check.due("late as it is", () -> x.run(0), 0);
        told("late as it is", x, 0, 0, 0, 0);
        check.due("late as it is", () -> x.run(100000), 0);
        stands("late as it is", x, 0, 2, 40);
        x.stop(2, 39, 40);
        check.due("beside a stop", () -> x.run(0), 0);
        x.clock(60, 60);
        check.due("frozen", () -> x.run(0), 0);
        told("frozen", x, 0, 0, 0, 0);
        check.inVain("run() of a good plan", BoundsOfRunsTest::goodWorld, y -> y.run(100000));
    }

    /** Its latest run was of a good plan, so that one more such run tells the same. */
    private static FewChanges goodWorld() {
        FewChanges x = World.some();
        x.run(0);
        return x;
    }

    /** Heat 0 has minute 59 alone, 50 behind its due minute; if heat 1 went too, minute 1 would do. */
    private static void roundsFirstThatFinds() {
        check.sentence("Terms: The first round in which some plan was found ends it");
        FewChanges x = withOrder(10);
        x.order(0, 200);
        x.heat(0, 1, 1, 0, 0);
        x.heat(1, 20, 3, 0, 1);
        x.stop(0, 0, 1);
        x.stop(0, 21, 59);
        check.due("run()", () -> x.run(100000), 1);
        told("run()", x, 0, 1, 1, 1);
        stands("run()", x, 0, 0, 59);
        stands("run()", x, 1, 0, 1);
        check.due("cost()", x::cost, 50);
    }

    /**
     * Heat 0 needs 15 minutes: those of heats 2 and 3 together, or those of 1 and 4. By bits {0, 2, 3} is 13 and
     * {0, 1, 4} is 19, though 1 is ahead of 2.
     */
    private static void setsAreRising() {
        check.sentence("Terms: sets as bits of heats, rising");
        FewChanges x = withOrder(200);
        x.heat(0, 15, 1, 0, 0);
        x.heat(0, 7, 3, 0, 45);
        x.heat(0, 7, 3, 0, 16);
        x.heat(0, 8, 3, 0, 23);
        x.heat(0, 8, 3, 0, 52);
        x.stop(0, 0, 16);
        x.stop(0, 31, 45);
        check.due("run()", () -> x.run(100000), 3);
        // Heat 0 has 16; heat 2 has 0 .. 53 of unit 1; behind the first of these heat 3 has 7 .. 52.
        told("run()", x, 0, 1 + 54 + 46, 3, 13);
        stands("run()", x, 0, 0, 16);
        stands("run()", x, 1, 0, 45);
        stands("run()", x, 2, 1, 0);
        stands("run()", x, 3, 1, 7);
        stands("run()", x, 4, 0, 52);
    }

    /** Heat 0 has one place in a window; the heat of that window has 51 on unit 1. */
    private static void setsOfHeatsNotFrozen() {
        check.sentence("Terms: for each set of k heats that are not frozen");
        int[][] clocks = {{0, 0, 3}, {10, 0, 3}, {0, 10, 3}, {11, 0, 5}, {0, 11, 5}, {5, 6, 5}, {30, 0, 5}};
        for (int[] clock : clocks) {
            String call = "clock(" + clock[0] + ", " + clock[1] + ")";
            FewChanges x = twoWindows(200, 200, 200);
            x.clock(clock[0], clock[1]);
            check.due(call, () -> x.run(100000), 2);
            told(call, x, 0, 1 + 51, 2, clock[2]);
            stands(call, x, 0, 0, clock[2] == 3 ? 10 : 45);
        }
        int[][] tooLate = {{31, 0, 1}, {45, 0, 1}, {1, 45, 0}, {46, 0, 0}, {60, 60, 0}};
        for (int[] clock : tooLate) {
            String call = "clock(" + clock[0] + ", " + clock[1] + ")";
            FewChanges x = twoWindows(200, 200, 200);
            x.clock(clock[0], clock[1]);
            check.due(call, () -> x.run(100000), -1);
            told(call, x, 0, 0, clock[2], 0);
        }
    }

    private static void placesByNumbers() {
        check.sentence("Terms: then, by numbers, each gets a place where it fits (among those that have places now)");
        FewChanges x = threeMinutes(200, 200);
        check.due("run()", () -> x.run(100000), 2);
        stands("heat 0 is first", x, 0, 0, 10);
        stands("heat 1 is next", x, 1, 0, 11);
        // A heat of the set that has no place now is in no other's way, nor is it where it was.
        FewChanges y = twoWindows(200, 200, 200);
        y.run(100000);
        stands("heat 0 has the place that was heat 1's", y, 0, 0, 10);
        FewChanges z = withOrder(200);
        z.heat(0, 10, 3, 0, 10);
        z.heat(0, 10, 1, 0, 40);
        z.stop(0, 0, 10);
        z.stop(0, 20, 60);
        check.due("run()", () -> z.run(100000), 2);
        // Heat 0 has 0 .. 50 of unit 1, and heat 1 then the place that was heat 0's.
        told("run()", z, 0, 51 + 1, 2, 3);
        stands("heat 0 goes first", z, 0, 1, 0);
        stands("heat 1 has the place that was heat 0's", z, 1, 0, 10);
    }

    /** A window as long as the heat is enough, one that is a minute shorter is not, wherever it is. */
    private static void placesOfAWindow() {
        check.sentence("Terms: a place where it fits (ends at 60, stops and heats on both sides)");
        for (int length : new int[] {1, 2, 19, 20}) {
            for (int from : new int[] {0, 25, 60 - length}) {
                String call = length + " minutes, free from " + from;
                FewChanges x = withWindow(length, from, from + length);
                check.due(call, () -> x.run(100000), 1);
                told(call, x, 0, 1, 1, 1);
                stands(call, x, 0, 1, from);
                FewChanges y = withWindow(length, from, from + length - 1);
                check.due(call + ", one less", () -> y.run(100000), -1);
                told(call + ", one less", y, 0, 0, 1, 0);
            }
        }
        FewChanges x = withOrder(200);
        x.heat(0, 10, 3, 0, 0);
        x.heat(0, 20, 2, 1, 0);
        x.heat(0, 20, 2, 1, 30);
        x.stop(0, 0, 60);
        x.stop(1, 50, 60);
        check.due("between two heats", () -> x.run(100000), 1);
        told("between two heats", x, 0, 1, 1, 1);
        stands("between two heats", x, 0, 1, 20);
    }

    /** A heat that is hit on unit 0; unit 1, which may take it too, is free between two minutes. */
    private static FewChanges withWindow(int length, int from, int to) {
        FewChanges x = withOrder(200);
        x.heat(0, length, 3, 0, 0);
        x.stop(0, 0, 60);
        if (from > 0) {
            x.stop(1, 0, from);
        }
        if (to < 60) {
            x.stop(1, to, 60);
        }
        return x;
    }

    private static void placesOtherThanTheOldOne() {
        check.sentence("Terms: a place other than its old one");
        // Heat 0 fits where it is and nowhere else; heat 1 fits nowhere.
        FewChanges x = withOrder(200);
        x.heat(0, 5, 2, 1, 20);
        x.heat(0, 5, 1, 0, 20);
        x.stop(0, 0, 60);
        x.stop(1, 0, 20);
        x.stop(1, 25, 60);
        check.due("nowhere else", () -> x.run(100000), -1);
        told("nowhere else", x, 0, 0, 2, 0);
        // A minute more, and heat 0 has one place more.
        x.go();
        x.stop(0, 0, 60);
        x.stop(1, 0, 20);
        x.stop(1, 26, 60);
        check.due("a minute behind", () -> x.run(100000), -1);
        told("a minute behind", x, 0, 1, 2, 0);
        check.due("no node for it", () -> x.run(0), -1);
        told("no node for it", x, 1, 0, 2, 0);
        // The same minute of another unit is another place.
        FewChanges y = withWindow(10, 0, 10);
        check.due("another unit", () -> y.run(100000), 1);
        stands("another unit", y, 0, 1, 0);
    }

    private static void placesByUnitsAndMinutes() {
        check.sentence("Terms: units in order, of each minutes in order");
        FewChanges x = withOrder(200);
        x.heat(0, 10, 7, 1, 20);
        x.stop(0, 0, 48);
        x.stop(1, 20, 21);
        check.due("of equals the first unit", () -> x.run(100000), 1);
        stands("and its first minute", x, 0, 0, 48);
        x.undo();
        check.due("run(1)", () -> x.run(1), 1);
        stands("the first node", x, 0, 0, 48);
        FewChanges y = withOrder(30);
        y.heat(0, 10, 7, 1, 20);
        y.stop(0, 0, 48);
        y.stop(1, 20, 21);
        check.due("the least lateness", () -> y.run(100000), 1);
        stands("the first place without any", y, 0, 1, 0);
        // 48 .. 50 of unit 0; 0 .. 10 and 21 .. 50 of unit 1; 0 .. 50 of unit 2.
        told("run(100000)", y, 0, 3 + 11 + 30 + 51, 1, 1);
        y.undo();
        check.due("run(3)", () -> y.run(3), 1);
        stands("only unit 0 was tried", y, 0, 0, 48);
        y.undo();
        check.due("run(4)", () -> y.run(4), 1);
        stands("unit 1 is next", y, 0, 1, 0);
    }

    private static void nodesAreCounted() {
        check.sentence("Terms: each such place that is tried is a node");
        FewChanges x = oneHit();
        int places = 59 + 60 + 60;
        check.due("just enough", () -> x.run(places), 1);
        told("just enough", x, 0, places, 1, 1);
        x.undo();
        check.due("one more", () -> x.run(places + 1), 1);
        told("one more", x, 0, places, 1, 1);
        x.undo();
        check.due("one less", () -> x.run(places - 1), 1);
        told("one less", x, 1, places - 1, 1, 1);
    }

    private static void nodesGivenUp() {
        check.sentence("Terms: when the cost is not below the best one's it is given up behind that");
        // 10, 11 cost 23; so do 11, 10, which come later. No first place costs 23 alone: 3 first ones, 2 behind each.
        FewChanges equal = threeMinutes(0, 0);
        check.due("as much as the best", () -> equal.run(100000), 2);
        told("as much as the best", equal, 0, 3 + 3 * 2, 2, 3);
        stands("as much as the best", equal, 0, 0, 10);
        stands("as much as the best", equal, 1, 0, 11);
        // Heat 1 costs nothing: heat 0 at 11 or 12 costs more than the best alone.
        FewChanges more = threeMinutes(0, 200);
        check.due("more than the best", () -> more.run(100000), 2);
        told("more than the best", more, 0, 3 + 2, 2, 3);
        // 10, 11 cost 0 + 1; 11, 10 cost nothing; then heat 0 at 12 costs 1.
        FewChanges better = threeMinutes(12, 11);
        check.due("below the best", () -> better.run(100000), 2);
        told("below the best", better, 0, 3 + 2 + 2, 2, 3);
        stands("below the best", better, 0, 0, 11);
        stands("below the best", better, 1, 0, 10);
        check.due("below the best: cost()", better::cost, 0);
        // 10, 11 cost 0 + 1; then heat 0 at 11 costs 1 alone: it is given up there, and heat 1 is not tried.
        FewChanges just = threeMinutes(11, 11);
        check.due("just the best", () -> just.run(100000), 2);
        told("just the best", just, 0, 3 + 2, 2, 3);
        stands("just the best", just, 0, 0, 10);
        stands("just the best", just, 1, 0, 11);
    }

    private static void nodesGivenUpWithThoseThatStay() {
        check.sentence("Terms: the cost of the heats that have places (those that stay have theirs)");
        FewChanges x = threeMinutes(0, 200);
        x.heat(0, 5, 2, 1, 30);
        check.due("heat 2 stays, 35 behind", () -> x.run(100000), 2);
        told("heat 2 stays", x, 0, 3 + 2, 2, 3);
        check.due("cost()", x::cost, 11 + 35);
    }

    private static void stayingHeatsMustFit() {
        check.sentence("Terms: Heats that stay must fit (otherwise the set is passed over)");
        FewChanges x = withOrder(200);
        x.heat(0, 1, 7, 0, 0);
        x.heat(0, 1, 7, 0, 1);
        x.heat(0, 1, 7, 1, 0);
        x.stop(0, 0, 2);
        check.due("two are hit", () -> x.run(0), -1);
        // No place is tried in round 1, for all that there are.
        told("two are hit", x, 1, 0, 2, 0);
        check.due("two are hit", () -> x.run(1), -1);
        told("two are hit", x, 1, 1, 2, 0);
        check.due("two are hit", () -> x.run(2), 2);
        told("two are hit", x, 1, 2, 2, 3);
        x.undo();
        x.clock(1, 0);
        check.due("one of them is frozen", () -> x.run(100000), -1);
        told("one of them is frozen", x, 0, 0, 1, 0);
    }

    /** {0, 1}: heat 1 goes to unit 1, 10 behind, and heat 2 stays. {0, 2}: heat 1 stays, 20 behind. */
    private static FewChanges stayOrGo(int due2) {
        FewChanges x = twoWindows(200, 0, due2);
        x.stop(1, 10, 60);
        return x;
    }

    private static void stayingHeatsMustCostLess() {
        check.sentence("Terms: and cost less than the best one's found in this round");
        FewChanges same = stayOrGo(45);
        check.due("as much", () -> same.run(100000), 2);
        told("as much", same, 0, 2, 2, 3);
        check.due("as much: cost()", same::cost, 10 + 10);
        FewChanges less = stayOrGo(44);
        check.due("one less", () -> less.run(100000), 2);
        told("one less", less, 0, 2 + 2, 2, 5);
        check.due("one less: cost()", less::cost, 20);
        stands("one less", less, 2, 1, 0);
        FewChanges more = stayOrGo(46);
        check.due("one more", () -> more.run(100000), 2);
        told("one more", more, 0, 2, 2, 3);
        check.due("one more: cost()", more::cost, 10 + 9);
    }

    /** As stayOrGo(), but heats 0 and 1 have the windows, heat 2 is hit, and heat 3 stays on unit 2, 7 behind. */
    private static FewChanges stayTogether(int due1) {
        FewChanges x = withOrder(0);
        x.order(0, due1);
        x.order(0, 200);
        x.heat(0, 10, 3, 0, 10);
        x.heat(1, 10, 3, 0, 45);
        x.heat(2, 10, 1, 0, 30);
        x.heat(0, 7, 4, 2, 0);
        x.stop(0, 0, 10);
        x.stop(0, 20, 45);
        x.stop(0, 55, 60);
        x.stop(1, 10, 60);
        return x;
    }

    private static void stayingHeatsCostTogether() {
        check.sentence("Terms: and cost less than the best one's found in this round (all that stay together)");
        FewChanges same = stayTogether(45);
        check.due("as much", () -> same.run(100000), 2);
        told("as much", same, 0, 2, 2, 1 + 4);
        check.due("as much: cost()", same::cost, 10 + 10 + 7);
        FewChanges less = stayTogether(44);
        check.due("one less", () -> less.run(100000), 2);
        told("one less", less, 0, 2 + 2, 2, 2 + 4);
        check.due("one less: cost()", less::cost, 20 + 7);
    }

    private static void spentWithNothing() {
        check.sentence("Terms: When no node is left: spent; else nothing is changed");
        FewChanges x = threeMinutes(0, 0);
        check.due("run(0)", () -> x.run(0), -1);
        told("run(0)", x, 1, 0, 2, 0);
        check.due("run(1)", () -> x.run(1), -1);
        told("run(1)", x, 1, 1, 2, 0);
        stands("run(1)", x, 0, 0, 20);
        stands("run(1)", x, 1, 0, 21);
        check.sameLook("the plan", BoundsOfRunsTest::hitWorld, y -> y.run(0), Look::atPlan);
        check.sameLook("copies and undo()", BoundsOfRunsTest::hitWorld, y -> y.run(0), Look::atCopiesAndUndo);
        check.sameLook("orders, heats and stops", BoundsOfRunsTest::hitWorld, y -> y.run(0), Look::atShop);
    }

    private static void spentWithSomething() {
        check.sentence("Terms: what the round had found by then counts, if something");
        FewChanges x = threeMinutes(12, 11);
        check.due("run(2)", () -> x.run(2), 2);
        told("run(2)", x, 1, 2, 2, 3);
        stands("run(2)", x, 0, 0, 10);
        stands("run(2)", x, 1, 0, 11);
        x.undo();
        check.due("run(4)", () -> x.run(4), 2);
        told("run(4)", x, 1, 4, 2, 3);
        stands("run(4)", x, 0, 0, 10);
        x.undo();
        check.due("run(5)", () -> x.run(5), 2);
        told("run(5)", x, 1, 5, 2, 3);
        stands("run(5)", x, 0, 0, 11);
        stands("run(5)", x, 1, 0, 10);
        x.undo();
        check.due("run(6)", () -> x.run(6), 2);
        told("run(6)", x, 1, 6, 2, 3);
        x.undo();
        check.due("run(7)", () -> x.run(7), 2);
        told("run(7)", x, 0, 7, 2, 3);
    }

    private static void spentAtAnotherSet() {
        check.sentence("Terms: replanning ends there: spent (at a later set of the round)");
        FewChanges x = stayOrGo(44);
        check.due("run(1)", () -> x.run(1), -1);
        told("run(1)", x, 1, 1, 2, 0);
        check.due("run(2)", () -> x.run(2), 2);
        told("run(2)", x, 1, 2, 2, 3);
        check.due("run(2): cost()", x::cost, 21);
        x.undo();
        check.due("run(3)", () -> x.run(3), 2);
        told("run(3)", x, 1, 3, 2, 3);
        check.due("run(3): cost()", x::cost, 21);
        x.undo();
        check.due("run(4)", () -> x.run(4), 2);
        told("run(4)", x, 0, 4, 2, 5);
        check.due("run(4): cost()", x::cost, 20);
        // A set that is passed over needs no node.
        FewChanges passed = stayOrGo(45);
        check.due("passed over", () -> passed.run(2), 2);
        told("passed over", passed, 0, 2, 2, 3);
    }

    /**
     * Heat 5 has no place at all. Round 2 tries 5 times 115 places of another heat; round 3 would try more than
     * 100,000 of two others.
     */
    private static void spentAtMost() {
        check.sentence("9: nodes (0 .. 100,000), all of them spent");
        FewChanges x = withOrder(200);
        for (int heat = 0; heat < 5; heat++) {
            x.heat(0, 1, 3, 0, heat);
        }
        x.heat(0, 1, 4, 2, 0);
        x.stop(2, 0, 60);
        check.due("run(575)", () -> x.run(575), -1);
        told("run(575)", x, 1, 575, 3, 0);
        check.due("run(574)", () -> x.run(574), -1);
        told("run(574)", x, 1, 574, 2, 0);
        check.due("run(99999)", () -> x.run(99999), -1);
        told("run(99999)", x, 1, 99999, 3, 0);
        check.due("run(100000)", () -> x.run(100000), -1);
        told("run(100000)", x, 1, 100000, 3, 0);
        for (int heat = 0; heat < 5; heat++) {
            stands("run(100000)", x, heat, 0, heat);
        }
    }

    private static void noRoundFindsOne() {
        check.sentence("Terms: When no round finds one nothing is changed");
        FewChanges x = sixHeats();
        x.stop(0, 0, 60);
        check.due("no place at all", () -> x.run(0), -1);
        told("no place at all, and none is missed", x, 0, 0, 6, 0);
        x.go();
        // Minutes 0, 10, .. 40 are left.
        for (int heat = 0; heat < 5; heat++) {
            x.stop(0, 10 * heat + 1, 10 * heat + 10);
        }
        x.stop(0, 50, 60);
        check.due("five minutes for six heats", () -> x.run(100000), -1);
        check.due("not spent", () -> x.told(0), 0);
        check.due("told(2)", () -> x.told(2), 6);
        check.due("told(3)", () -> x.told(3), 0);
        for (int heat = 0; heat < 6; heat++) {
            stands("five minutes for six heats", x, heat, 0, 10 * heat);
        }
        check.sameLook("the plan", BoundsOfRunsTest::lostWorld, y -> y.run(100000), Look::atPlan);
        check.sameLook("copies and undo()", BoundsOfRunsTest::lostWorld, y -> y.run(100000), Look::atCopiesAndUndo);
        check.sameLook("orders, heats and stops", BoundsOfRunsTest::lostWorld, y -> y.run(100000), Look::atShop);
    }

    /** Heat 0, which is frozen, does not fit. */
    private static FewChanges lostWorld() {
        FewChanges x = World.some();
        x.stop(0, 19, 20);
        return x;
    }

    private static void toldWhats() {
        check.sentence("10: Index: no such what (0 .. 3)");
        FewChanges x = oneHit();
        for (int what : Check.outside(0, 3)) {
            check.refused("ahead of turn: told(" + what + ")", () -> x.told(what), Check.INDEX);
        }
        x.run(100000);
        for (int what : Check.outside(0, 3)) {
            check.refused("told(" + what + ")", () -> x.told(what), Check.INDEX);
        }
        check.due("told(0)", () -> x.told(0), 0);
        check.due("told(3)", () -> x.told(3), 1);
    }

    private static void toldTurn() {
        check.sentence("10: turn: there was none");
        FewChanges x = oneHit();
        for (int what = 0; what < 4; what++) {
            int w = what;
            check.refused("no run()", () -> x.told(w), Check.TURN);
        }
        check.refused("run(-1)", () -> x.run(-1), Check.RANGE);
        check.refused("run(100001)", () -> x.run(100001), Check.RANGE);
        for (int what = 0; what < 4; what++) {
            int w = what;
            check.refused("run() was refused", () -> x.told(w), Check.TURN);
        }
        check.due("a run() that finds nothing", () -> x.run(0), -1);
        told("it was one", x, 1, 0, 1, 0);
    }

    private static void toldOfTheLatest() {
        check.sentence("10: Of the latest run()");
        FewChanges x = oneHit();
        x.run(100000);
        told("found", x, 0, 179, 1, 1);
        x.run(100000);
        told("good now", x, 0, 0, 0, 0);
        x.stop(0, 1, 2);
        x.run(0);
        told("spent", x, 1, 0, 1, 0);
        x.run(5);
        told("spent, found", x, 1, 5, 1, 1);
        x.clock(60, 0);
        x.stop(0, 2, 3);
        x.run(5);
        told("frozen", x, 0, 0, 0, 0);
        x.clock(0, 0);
        x.run(5);
        told("spent, found", x, 1, 5, 1, 1);
        check.refused("run(-1)", () -> x.run(-1), Check.RANGE);
        x.go();
        x.place(0, 2, 2);
        x.keep(0);
        x.use(0);
        x.order(0, 0);
        x.heat(0, 1, 7, 1, 1);
        x.divert(1, 1);
        x.undo();
        x.clock(60, 60);
        x.stop(0, 0, 60);
        told("no other call is one", x, 1, 5, 1, 1);
    }

    private static void toldNumberNotFrozen() {
        check.sentence("10: 2 the number of heats that are not frozen, when no round found one");
        for (int frozen = 1; frozen <= 6; frozen++) {
            FewChanges x = sixHeats();
            x.stop(0, 0, 1);
            x.clock(10 * frozen - 9, 0);
            int loose = 6 - frozen;
            check.due(loose + " not frozen", () -> x.run(100000), -1);
            told(loose + " not frozen", x, 0, 0, loose, 0);
            if (frozen < 6) {
                x.clock(0, 10 * frozen);
                x.run(100000);
                told("up to the next one's minute", x, 0, 0, loose, 0);
                x.clock(1, 10 * frozen);
                x.run(100000);
                told("a minute more", x, 0, 0, loose - 1, 0);
            }
        }
        FewChanges all = sixHeats();
        all.stop(0, 0, 60);
        all.run(100000);
        told("6 not frozen", all, 0, 0, 6, 0);
    }

    private static void toldList() {
        check.sentence("10: 3 the list as bits");
        for (int hit = 0; hit < 6; hit++) {
            FewChanges x = sixHeats();
            x.stop(0, 10 * hit, 10 * hit + 1);
            x.run(100000);
            told("heat " + hit, x, 0, 54, 1, 1 << hit);
        }
        FewChanges x = sixHeats();
        x.stop(0, 0, 1);
        x.stop(0, 50, 51);
        x.run(100000);
        told("heats 0 and 5", x, 0, 54 + 53, 2, 1 + 32);
    }

    private static void toldChangesNothing() {
        check.sentence("10: what is asked changes nothing, refused or not");
        check.refusedInVain("told(4)", World::some, x -> x.told(4), Check.INDEX);
        check.refusedInVain("told(-1)", World::some, x -> x.told(-1), Check.INDEX);
        check.refusedInVain("told(0), no run() yet", BoundsOfRunsTest::withoutRun, x -> x.told(0), Check.TURN);
        for (int what = 0; what < 4; what++) {
            int w = what;
            check.inVain("told(" + w + ")", World::some, x -> x.told(w));
        }
    }

    private static FewChanges withoutRun() {
        FewChanges x = withOrder(0);
        for (int heat = 0; heat < 3; heat++) {
            x.heat(0, 1, 7, heat, 0);
        }
        x.place(0, 0, 30);
        return x;
    }
}
