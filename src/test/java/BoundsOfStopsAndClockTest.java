/** Promises 4 to 6 and what "Terms" says of stops, now, the freeze and frozen heats: a test for each bound. */
public final class BoundsOfStopsAndClockTest {
    private static final Check check = new Check("BoundsOfStopsAndClockTest");

    public static void main(String[] args) {
        stopHowMany();
        stopUnits();
        stopTurn();
        stopFrom();
        stopTo();
        stopSecondBehindFirst();
        stopItselfNot();
        stopWholeUnit();
        stopChecksInOrder();
        stopRefusedInVain();
        stopLeavesHeatsWhereTheyAre();
        goWithoutStops();
        goForgetsAll();
        goLeavesTheRest();
        clockAtFirst();
        clockNow();
        clockFreeze();
        clockRefusedInVain();
        frozenAheadOfBothTogether();
        check.end();
    }

    /** One heat of one minute that may be anywhere. */
    private static FewChanges withHeat(int unit, int minute) {
        FewChanges x = new FewChanges();
        x.order(0, 0);
        x.heat(0, 1, 7, unit, minute);
        return x;
    }

    private static void isFree(FewChanges x, int unit, int minute, boolean free) {
        check.same("a heat at minute " + minute + " of unit " + unit, Check.answerOf(() -> x.place(0, unit, minute)),
                free ? "0" : Check.MEANING);
    }

    private static void stopHowMany() {
        check.sentence("4: A stop: how many");
        FewChanges x = new FewChanges();
        for (int stop = 1; stop <= 10; stop++) {
            int unit = stop % 3;
            check.refused("stop(0, 1, 1)", () -> x.stop(0, 1, 1), Check.RANGE);
            check.due("stop(" + unit + ", 0, 9)", () -> x.stop(unit, 0, 9), stop);
        }
    }

    private static void stopUnits() {
        check.sentence("4: Index: no such unit");
        FewChanges x = new FewChanges();
        for (int unit : Check.outside(0, 2)) {
            check.refused("stop(" + unit + ", 0, 1)", () -> x.stop(unit, 0, 1), Check.INDEX);
        }
        for (int unit = 0; unit < 3; unit++) {
            int u = unit;
            check.due("stop(" + u + ", 0, 1)", () -> x.stop(u, 0, 1), u + 1);
        }
    }

    private static void stopTurn() {
        check.sentence("4: turn: there are 10");
        FewChanges x = withHeat(0, 59);
        for (int stop = 0; stop < 9; stop++) {
            x.stop(0, 5, 6);
        }
        check.due("the tenth", () -> x.stop(0, 8, 9), 10);
        check.refused("an eleventh", () -> x.stop(0, 0, 60), Check.TURN);
        check.refused("an eleventh again", () -> x.stop(1, 0, 60), Check.TURN);
        isFree(x, 0, 8, false);
        isFree(x, 0, 7, true);
        isFree(x, 1, 7, true);
        check.refusedInVain("an eleventh", () -> World.with(3, 3, 10), y -> y.stop(0, 0, 60), Check.TURN);
        x.go();
        check.due("behind go()", () -> x.stop(0, 0, 60), 1);
    }

    private static void stopFrom() {
        check.sentence("4: range: minutes (0 .. 60), the first");
        FewChanges x = new FewChanges();
        for (int from : Check.outside(0, 60)) {
            check.refused("stop(0, " + from + ", 60)", () -> x.stop(0, from, 60), Check.RANGE);
        }
        check.refused("stop(0, -1, 0)", () -> x.stop(0, -1, 0), Check.RANGE);
        check.due("stop(0, 0, 60)", () -> x.stop(0, 0, 60), 1);
        check.due("stop(0, 59, 60)", () -> x.stop(0, 59, 60), 2);
        // 60 is a minute here, but none of 0 .. 60 is behind it.
        check.refused("stop(0, 60, 60)", () -> x.stop(0, 60, 60), Check.RANGE);
    }

    private static void stopTo() {
        check.sentence("4: range: minutes (0 .. 60), the second");
        FewChanges x = new FewChanges();
        for (int to : Check.outside(0, 60)) {
            check.refused("stop(0, 0, " + to + ")", () -> x.stop(0, 0, to), Check.RANGE);
        }
        check.refused("stop(0, 60, 61)", () -> x.stop(0, 60, 61), Check.RANGE);
        check.refused("stop(0, 59, 61)", () -> x.stop(0, 59, 61), Check.RANGE);
        check.due("stop(0, 0, 60)", () -> x.stop(0, 0, 60), 1);
        check.due("stop(0, 0, 1)", () -> x.stop(0, 0, 1), 2);
    }

    private static void stopSecondBehindFirst() {
        check.sentence("4: range: the second not behind the first");
        for (int minute = 0; minute <= 60; minute++) {
            int m = minute;
            FewChanges x = new FewChanges();
            check.refused("stop(0, " + m + ", " + m + ")", () -> x.stop(0, m, m), Check.RANGE);
            if (minute > 0) {
                check.refused("stop(0, " + m + ", " + (m - 1) + ")", () -> x.stop(0, m, m - 1), Check.RANGE);
                check.refused("stop(0, " + m + ", 0)", () -> x.stop(0, m, 0), Check.RANGE);
            }
            if (minute < 60) {
                check.due("stop(0, " + m + ", " + (m + 1) + ")", () -> x.stop(0, m, m + 1), 1);
            }
        }
    }

    private static void stopItselfNot() {
        check.sentence("Terms: from a minute to another one (itself not)");
        FewChanges x = withHeat(1, 0);
        x.stop(0, 10, 20);
        isFree(x, 0, 9, true);
        isFree(x, 0, 10, false);
        isFree(x, 0, 19, false);
        isFree(x, 0, 20, true);
        isFree(x, 1, 10, true);
        isFree(x, 2, 19, true);
        x.stop(2, 30, 31);
        isFree(x, 2, 29, true);
        isFree(x, 2, 30, false);
        isFree(x, 2, 31, true);
        x.stop(0, 15, 25);
        isFree(x, 0, 14, false);
        isFree(x, 0, 24, false);
        isFree(x, 0, 25, true);
    }

    private static void stopWholeUnit() {
        check.sentence("Terms: stops of a unit, from its first minute to its last");
        FewChanges x = withHeat(0, 30);
        x.stop(1, 0, 60);
        x.stop(2, 59, 60);
        x.stop(2, 0, 1);
        for (int minute = 0; minute < 60; minute++) {
            isFree(x, 1, minute, false);
            isFree(x, 0, minute, true);
            isFree(x, 2, minute, minute > 0 && minute < 59);
        }
    }

    private static void stopChecksInOrder() {
        check.sentence("4: index, turn, range, in this order");
        FewChanges full = World.with(3, 3, 10);
        check.refused("index ahead of turn", () -> full.stop(3, 0, 1), Check.INDEX);
        check.refused("index ahead of turn", () -> full.stop(-1, 0, 1), Check.INDEX);
        check.refused("turn ahead of the first minute", () -> full.stop(0, -1, 1), Check.TURN);
        check.refused("turn ahead of the second minute", () -> full.stop(0, 0, 61), Check.TURN);
        check.refused("turn ahead of both", () -> full.stop(0, 5, 5), Check.TURN);
        FewChanges x = World.some();
        check.refused("index ahead of the first minute", () -> x.stop(3, -1, 1), Check.INDEX);
        check.refused("index ahead of the second minute", () -> x.stop(3, 0, 61), Check.INDEX);
        check.refused("index ahead of both", () -> x.stop(-1, 5, 5), Check.INDEX);
    }

    private static void stopRefusedInVain() {
        check.sentence("4: what is refused changes nothing");
        check.refusedInVain("stop(3, 0, 60)", World::some, x -> x.stop(3, 0, 60), Check.INDEX);
        check.refusedInVain("stop(-1, 0, 60)", World::some, x -> x.stop(-1, 0, 60), Check.INDEX);
        check.refusedInVain("stop(0, -1, 60)", World::some, x -> x.stop(0, -1, 60), Check.RANGE);
        check.refusedInVain("stop(0, 0, 61)", World::some, x -> x.stop(0, 0, 61), Check.RANGE);
        check.refusedInVain("stop(0, 5, 5)", World::some, x -> x.stop(0, 5, 5), Check.RANGE);
        check.refusedInVain("stop(0, 50, 5)", World::some, x -> x.stop(0, 50, 5), Check.RANGE);
    }

    private static void stopLeavesHeatsWhereTheyAre() {
        check.sentence("Terms: Heats may stand where they do not fit, behind a stop");
        FewChanges x = new FewChanges();
        x.order(0, 0);
        x.heat(0, 10, 1, 0, 20);
        x.place(0, 0, 30);
        x.keep(1);
        x.stop(0, 20, 30);
        x.stop(0, 40, 60);
        check.due("stops on both sides of it", () -> x.at(0, 3), 1);
        x.stop(0, 39, 40);
        check.due("its last minute", () -> x.at(0, 3), 0);
        check.due("its unit", () -> x.at(0, 0), 0);
        check.due("its minute", () -> x.at(0, 1), 30);
        check.due("it has its minutes", () -> x.on(0, 39), 0);
        check.due("it costs what it did", x::cost, 40);
        check.due("the copy is the plan", () -> x.compare(1), 0);
        x.go();
        x.stop(0, 29, 31);
        check.due("its first minute", () -> x.at(0, 3), 0);
        check.done("place() is still the latest", x::undo);
        check.due("undone", () -> x.at(0, 1), 20);
        check.due("its last minute there", () -> x.at(0, 3), 0);
    }

    private static void goWithoutStops() {
        check.sentence("5: Forgets all stops (there are none)");
        FewChanges x = new FewChanges();
        check.done("go()", x::go);
        check.done("go() again", x::go);
        check.due("the first stop", () -> x.stop(0, 0, 1), 1);
    }

    private static void goForgetsAll() {
        check.sentence("5: Forgets all stops (there are 10)");
        FewChanges x = withHeat(1, 30);
        for (int stop = 0; stop < 10; stop++) {
            x.stop(stop % 3, 0, 60);
        }
        check.due("it does not fit", () -> x.at(0, 3), 0);
        check.done("go()", x::go);
        check.due("it fits", () -> x.at(0, 3), 1);
        for (int unit = 0; unit < 3; unit++) {
            for (int minute = 0; minute < 60; minute++) {
                isFree(x, unit, minute, true);
            }
        }
        for (int stop = 1; stop <= 10; stop++) {
            check.due("ten more", () -> x.stop(0, 0, 1), stop);
        }
        check.refused("an eleventh", () -> x.stop(0, 0, 1), Check.TURN);
    }

    private static void goLeavesTheRest() {
        check.sentence("5: Forgets all stops (and nothing else)");
        FewChanges x = World.some();
        check.done("go()", x::go);
        check.due("heat 0 is frozen still", () -> x.at(0, 4), 1);
        check.due("heat 2 is not", () -> x.at(2, 4), 0);
        check.due("heat 1 stands", () -> x.at(1, 1), 0);
        check.due("told() of the run", () -> x.told(3), 2);
        check.due("copy 0", () -> x.compare(0), 2);
        check.due("copy 2", () -> x.compare(2), 1);
        check.refused("copy 1", () -> x.compare(1), Check.TURN);
        check.done("the run can be undone", x::undo);
        check.due("heat 1 stood there", () -> x.at(1, 1), 21);
        check.due("and fits now", () -> x.at(1, 3), 1);
    }

    private static void clockAtFirst() {
        check.sentence("Terms: now is a minute (0 at first); the freeze (0 at first)");
        FewChanges x = withHeat(0, 0);
        check.due("a heat at minute 0", () -> x.at(0, 4), 0);
        check.done("place()", () -> x.place(0, 0, 1));
        x.clock(1, 0);
        check.due("a heat at now", () -> x.at(0, 4), 0);
    }

    private static void clockNow() {
        check.sentence("6: Range: now 0 .. 60");
        FewChanges x = withHeat(0, 59);
        for (int now : Check.outside(0, 60)) {
            check.refused("clock(" + now + ", 0)", () -> x.clock(now, 0), Check.RANGE);
            check.refused("clock(" + now + ", 60)", () -> x.clock(now, 60), Check.RANGE);
            check.due("it is not frozen", () -> x.at(0, 4), 0);
        }
        check.done("clock(60, 0)", () -> x.clock(60, 0));
        check.due("the last minute is frozen", () -> x.at(0, 4), 1);
        check.done("clock(59, 0)", () -> x.clock(59, 0));
        check.due("the last minute is not", () -> x.at(0, 4), 0);
        check.done("clock(0, 0)", () -> x.clock(0, 0));
        check.due("the last minute is not", () -> x.at(0, 4), 0);
    }

    private static void clockFreeze() {
        check.sentence("6: Range: the freeze (0 .. 60)");
        FewChanges x = withHeat(0, 59);
        for (int freeze : Check.outside(0, 60)) {
            check.refused("clock(0, " + freeze + ")", () -> x.clock(0, freeze), Check.RANGE);
            check.refused("clock(60, " + freeze + ")", () -> x.clock(60, freeze), Check.RANGE);
            check.due("it is not frozen", () -> x.at(0, 4), 0);
        }
        check.refused("clock(MAX, MAX)", () -> x.clock(Integer.MAX_VALUE, Integer.MAX_VALUE), Check.RANGE);
        check.refused("clock(61, 61)", () -> x.clock(61, 61), Check.RANGE);
        check.refused("clock(-1, 2)", () -> x.clock(-1, 2), Check.RANGE);
        check.done("clock(0, 60)", () -> x.clock(0, 60));
        check.due("the last minute is frozen", () -> x.at(0, 4), 1);
        check.done("clock(0, 59)", () -> x.clock(0, 59));
        check.due("the last minute is not", () -> x.at(0, 4), 0);
        check.done("clock(60, 60)", () -> x.clock(60, 60));
        check.due("the last minute is frozen", () -> x.at(0, 4), 1);
    }

    private static void clockRefusedInVain() {
        check.sentence("6: what is refused changes nothing");
        check.refusedInVain("clock(61, 0)", World::some, x -> x.clock(61, 0), Check.RANGE);
        check.refusedInVain("clock(-1, 60)", World::some, x -> x.clock(-1, 60), Check.RANGE);
        check.refusedInVain("clock(60, 61)", World::some, x -> x.clock(60, 61), Check.RANGE);
        check.refusedInVain("clock(0, -1)", World::some, x -> x.clock(0, -1), Check.RANGE);
    }

    private static void frozenAheadOfBothTogether() {
        check.sentence("Terms: frozen when it begins ahead of now and the freeze together");
        FewChanges first = withHeat(0, 0);
        check.due("minute 0, clock(0, 0)", () -> first.at(0, 4), 0);
        first.clock(0, 1);
        check.due("minute 0, clock(0, 1)", () -> first.at(0, 4), 1);
        first.clock(1, 0);
        check.due("minute 0, clock(1, 0)", () -> first.at(0, 4), 1);
        for (int minute = 1; minute < 60; minute++) {
            FewChanges x = withHeat(1, minute);
            for (int now : new int[] {0, 1, minute / 2, minute}) {
                x.clock(now, minute - now);
                check.due("minute " + minute + ", as both end", () -> x.at(0, 4), 0);
                x.clock(now, minute - now + 1);
                check.due("minute " + minute + ", a minute ahead", () -> x.at(0, 4), 1);
            }
        }
    }
}
