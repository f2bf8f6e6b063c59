/** Promises 9 and 10: replanning by rounds and nodes, and what it tells; the answers are counted by hand. */
public final class ReplanningTest {
    private static final Check check = new Check("ReplanningTest");

    public static void main(String[] args) {
        checks();
        goodPlan();
        oneHeat();
        nodesRunOut();
        leastLateness();
        firstOfEquals();
        twoHeats();
        twoHeatsRunOut();
        oldPlaceIsNoPlace();
        latenessOfThoseThatStay();
        frozenHeatsStay();
        frozenMinutesAreFree();
        nothingFound();
        ordersStand();
        check.end();
    }

    private static void told(String call, FewChanges x, int spent, int nodes, int round, int list) {
        check.due(call + ": spent", () -> x.told(0), spent);
        check.due(call + ": nodes", () -> x.told(1), nodes);
        check.due(call + ": round", () -> x.told(2), round);
        check.due(call + ": list", () -> x.told(3), list);
    }

    private static void stands(String call, FewChanges x, int heat, int unit, int minute) {
        check.due(call + ": unit of " + heat, () -> x.at(heat, 0), unit);
        check.due(call + ": minute of " + heat, () -> x.at(heat, 1), minute);
    }

    private static FewChanges withOrder(int due) {
        FewChanges x = new FewChanges();
        x.order(0, due);
        return x;
    }

    /** A heat that only unit 0 may take, hit by a stop; 40 places are left, from minute 1 on. */
    private static FewChanges oneHit() {
        FewChanges x = withOrder(200);
        x.heat(0, 20, 1, 0, 0);
        x.stop(0, 0, 1);
        return x;
    }

    /** Heat 0 is hit and has room only when heat 1 or heat 2 goes. */
    private static FewChanges crowded() {
        FewChanges x = withOrder(200);
        x.heat(0, 20, 1, 0, 0);
        x.heat(0, 5, 3, 0, 25);
        x.heat(0, 5, 5, 0, 49);
        x.stop(0, 0, 6);
        return x;
    }

    private static void checks() {
        FewChanges x = oneHit();
        check.refused("10: told(-1) ahead of turn", () -> x.told(-1), Check.INDEX);
        check.refused("10: told(4) ahead of turn", () -> x.told(4), Check.INDEX);
        check.refused("9: run(-1)", () -> x.run(-1), Check.RANGE);
        check.refused("9: run(100001)", () -> x.run(100001), Check.RANGE);
        for (int what = 0; what < 4; what++) {
            int w = what;
            check.refused("10: no run yet", () -> x.told(w), Check.TURN);
        }
        check.due("9: run(100000)", () -> x.run(100000), 1);
        check.refused("9: run(-1)", () -> x.run(-1), Check.RANGE);
        told("10: a refused run is none", x, 0, 40, 1, 1);
        check.refused("10: told(-1)", () -> x.told(-1), Check.INDEX);
        check.refused("10: told(4)", () -> x.told(4), Check.INDEX);
    }

    private static void goodPlan() {
        FewChanges x = withOrder(0);
        check.due("9: no heats", () -> x.run(0), 0);
        told("10: no heats", x, 0, 0, 0, 0);
        x.heat(0, 20, 7, 2, 40);
        check.due("9: a good plan, late as it is", () -> x.run(0), 0);
        told("10: a good plan", x, 0, 0, 0, 0);
        stands("9: a good plan", x, 0, 2, 40);
        x.clock(60, 60);
        check.due("9: a good plan, frozen", () -> x.run(100000), 0);
        told("10: a good plan, frozen", x, 0, 0, 0, 0);
    }

    private static void oneHeat() {
        FewChanges x = oneHit();
        check.due("9: one heat", () -> x.run(100000), 1);
        told("10: one heat", x, 0, 40, 1, 1);
        stands("9: one heat", x, 0, 0, 1);
        check.due("9: good now", () -> x.run(100000), 0);
        told("10: good now", x, 0, 0, 0, 0);
    }

    private static void nodesRunOut() {
        FewChanges x = oneHit();
        check.due("9: run(0)", () -> x.run(0), -1);
        told("10: run(0)", x, 1, 0, 1, 0);
        stands("9: run(0)", x, 0, 0, 0);
        check.due("9: run(1)", () -> x.run(1), 1);
        told("10: run(1)", x, 1, 1, 1, 1);
        stands("9: run(1)", x, 0, 0, 1);
        x.undo();
        check.due("9: run(39)", () -> x.run(39), 1);
        told("10: run(39)", x, 1, 39, 1, 1);
        x.undo();
        check.due("9: run(40)", () -> x.run(40), 1);
        told("10: run(40)", x, 0, 40, 1, 1);
    }

    private static void leastLateness() {
        FewChanges x = withOrder(10);
        x.heat(0, 10, 3, 0, 0);
        x.stop(0, 0, 30);
        check.due("9: unit 0 is late", () -> x.run(21), 1);
        told("10: unit 0 is late", x, 1, 21, 1, 1);
        stands("9: unit 0 is late", x, 0, 0, 30);
        x.undo();
        check.due("9: unit 1 is not", () -> x.run(100000), 1);
        told("10: unit 1 is not", x, 0, 21 + 51, 1, 1);
        stands("9: unit 1 is not", x, 0, 1, 0);
    }

    private static void firstOfEquals() {
        FewChanges x = withOrder(5);
        x.heat(0, 10, 7, 2, 0);
        x.stop(2, 0, 1);
        check.due("9: equals", () -> x.run(100000), 1);
        told("10: equals", x, 0, 51 + 51 + 50, 1, 1);
        stands("9: the first of equals", x, 0, 0, 0);
    }

    private static void twoHeats() {
        FewChanges x = crowded();
        check.due("9: two heats", () -> x.run(100000), 2);
        told("10: two heats", x, 0, 24 + 21 + 56, 2, 3);
        stands("9: two heats", x, 0, 0, 6);
        stands("9: two heats", x, 1, 0, 26);
        stands("9: two heats", x, 2, 0, 49);
        x.undo();
        x.clock(1, 25);
        check.due("9: two frozen", () -> x.run(100000), -1);
        told("10: two frozen", x, 0, 0, 1, 0);
    }

    private static void twoHeatsRunOut() {
        FewChanges x = crowded();
        check.due("9: run(0)", () -> x.run(0), -1);
        told("10: run(0)", x, 1, 0, 2, 0);
        check.due("9: run(1)", () -> x.run(1), -1);
        told("10: run(1)", x, 1, 1, 2, 0);
        stands("9: run(1)", x, 0, 0, 0);
        stands("9: run(1)", x, 1, 0, 25);
        check.refused("9: run(1) leaves nothing to undo", x::undo, Check.TURN);
        check.due("9: run(2)", () -> x.run(2), 2);
        told("10: run(2)", x, 1, 2, 2, 3);
        stands("9: run(2)", x, 0, 0, 6);
        stands("9: run(2)", x, 1, 0, 26);
        x.undo();
        check.due("9: run(100)", () -> x.run(100), 2);
        told("10: run(100)", x, 1, 100, 2, 3);
    }

    /** Heat 1 is hit and has room only when heat 0 goes; heat 0 must not be tried where it stood. */
    private static void oldPlaceIsNoPlace() {
        FewChanges x = withOrder(200);
        x.heat(0, 5, 1, 0, 25);
        x.heat(0, 20, 1, 0, 0);
        x.stop(0, 0, 6);
        x.stop(0, 49, 60);
        check.due("9: the old place", () -> x.run(100000), 2);
        stands("9: the old place", x, 0, 0, 6);
        stands("9: the old place", x, 1, 0, 11);
        // Heat 0 has 6 .. 44 but for 25; behind the first of these heat 1 has 11 .. 29.
        told("10: the old place", x, 0, 38 + 19, 2, 3);
    }

    /** Heat 2 is late where it stands, so {0, 2} is better than {0, 1}, which comes first. */
    private static void latenessOfThoseThatStay() {
        FewChanges x = crowded();
        x.order(0, 5);
        x.divert(2, 1);
        check.due("9: who stays", () -> x.run(24 + 77), 2);
        told("10: {0, 1} alone", x, 1, 24 + 77, 2, 3);
        check.due("9: cost of {0, 1}", x::cost, 49);
        x.undo();
        check.due("9: who stays", () -> x.run(100000), 2);
        check.due("9: cost of {0, 2}", x::cost, 0);
        // {0, 1}: as in twoHeats(), for 49. {0, 2}: heat 0 has 30 .. 40; behind the first of these heat 2 has 6 .. 20
        // and 50 .. 55 on unit 0, and all of unit 2, where minute 0 costs nothing.
        told("10: who stays", x, 0, 24 + 77 + 11 + 15 + 6 + 56, 2, 5);
        stands("9: who stays", x, 0, 0, 30);
        stands("9: who stays", x, 1, 0, 25);
        stands("9: who stays", x, 2, 2, 0);
    }

    private static void frozenHeatsStay() {
        FewChanges x = withOrder(200);
        x.heat(0, 10, 1, 0, 0);
        x.heat(0, 10, 1, 0, 10);
        x.heat(0, 10, 1, 0, 20);
        x.stop(0, 5, 6);
        x.clock(1, 0);
        check.due("9: a frozen heat is hit", () -> x.run(100000), -1);
        told("10: a frozen heat is hit", x, 0, 0, 2, 0);
        x.clock(60, 0);
        check.due("9: all are frozen", () -> x.run(100000), -1);
        told("10: all are frozen", x, 0, 0, 0, 0);
        x.clock(0, 0);
        check.due("9: none is frozen", () -> x.run(100000), 1);
        told("10: none is frozen", x, 0, 21, 1, 1);
        stands("9: none is frozen", x, 0, 0, 30);
    }

    private static void frozenMinutesAreFree() {
        FewChanges x = withOrder(0);
        x.heat(0, 10, 1, 0, 40);
        x.stop(0, 40, 41);
        x.clock(30, 10);
        check.due("9: frozen minutes", () -> x.run(100000), 1);
        stands("9: frozen minutes", x, 0, 0, 0);
        check.due("9: frozen there", () -> x.at(0, 4), 1);
    }

    private static void nothingFound() {
        FewChanges x = withOrder(200);
        x.heat(0, 20, 1, 0, 0);
        x.heat(0, 20, 2, 1, 0);
        x.stop(0, 0, 60);
        check.due("9: no place at all", () -> x.run(100000), -1);
        // Round 2 takes both; heat 0 has no place, so heat 1 tries none.
        told("10: no place at all", x, 0, 0, 2, 0);
        stands("9: no place at all", x, 0, 0, 0);
        x.go();
        check.due("9: found again", () -> x.run(0), 0);
        told("10: found again", x, 0, 0, 0, 0);
        x.stop(1, 0, 60);
        check.due("9: heat 1 has none", () -> x.run(100000), -1);
        told("10: heat 1 has none", x, 0, 40, 2, 0);
        check.due("9: spent in the last round", () -> x.run(39), -1);
        told("10: spent in the last round", x, 1, 39, 2, 0);
    }

    private static void ordersStand() {
        FewChanges x = withOrder(200);
        x.order(0, 0);
        x.heat(0, 20, 1, 0, 0);
        x.divert(0, 1);
        x.stop(0, 0, 1);
        x.run(100000);
        check.due("9: its order", () -> x.at(0, 2), 1);
        check.due("9: cost by its order", x::cost, 21);
    }
}
