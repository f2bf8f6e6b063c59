/** Promises 1 to 3 and what "Terms" says of units, minutes, orders, heats and fitting: a test for each bound. */
public final class BoundsOfOrdersAndHeatsTest {
    private static final Check check = new Check("BoundsOfOrdersAndHeatsTest");

    public static void main(String[] args) {
        newHasNoOrders();
        newHasNoHeats();
        newHasNoStops();
        newHasNothingElse();
        orderNumbers();
        orderTurn();
        orderGrades();
        orderDues();
        orderChecksInOrder();
        orderRefusedInVain();
        heatNumbers();
        heatLeavesNothingToUndo();
        heatCopiesAreGone();
        heatOrders();
        heatUnits();
        heatTurn();
        heatLengths();
        heatUnitBits();
        heatMinutes();
        heatChecksInOrder();
        heatRefusedInVain();
        fitsWhereTheUnitMayTakeIt();
        fitsUpToMinute60();
        fitsClearOfStops();
        fitsClearOfHeats();
        lastCalls();
        check.end();
    }

    private static FewChanges withOrder() {
        FewChanges x = new FewChanges();
        x.order(0, 0);
        return x;
    }

    private static void newHasNoOrders() {
        check.sentence("1: No orders");
        FewChanges x = new FewChanges();
        check.refused("heat() of order 0", () -> x.heat(0, 1, 1, 0, 0), Check.INDEX);
        check.due("the first order", () -> x.order(0, 0), 0);
        check.due("heat() of order 0", () -> x.heat(0, 1, 1, 0, 0), 0);
        check.refused("heat() of order 1", () -> x.heat(1, 1, 1, 0, 1), Check.INDEX);
    }

    private static void newHasNoHeats() {
        check.sentence("1: no heats");
        FewChanges x = withOrder();
        for (int what = 0; what < 5; what++) {
            int w = what;
            check.refused("at(0, " + w + ")", () -> x.at(0, w), Check.INDEX);
        }
        check.refused("place(0, 0, 0)", () -> x.place(0, 0, 0), Check.INDEX);
        check.refused("divert(0, 0)", () -> x.divert(0, 0), Check.INDEX);
        check.due("cost()", x::cost, 0);
        for (int unit = 0; unit < 3; unit++) {
            for (int minute = 0; minute < 60; minute++) {
                int u = unit;
                int m = minute;
                check.due("on(" + u + ", " + m + ")", () -> x.on(u, m), -1);
            }
        }
        check.due("the first heat", () -> x.heat(0, 1, 1, 0, 0), 0);
    }

    private static void newHasNoStops() {
        check.sentence("1: no stops");
        FewChanges x = withOrder();
        x.heat(0, 1, 7, 0, 0);
        for (int unit = 0; unit < 3; unit++) {
            for (int minute = 0; minute < 60; minute++) {
                int u = unit;
                int m = minute;
                check.done("place(0, " + u + ", " + m + ")", () -> x.place(0, u, m));
            }
        }
        check.due("the first stop", () -> x.stop(0, 0, 1), 1);
    }

    private static void newHasNothingElse() {
        check.sentence("1: a new object");
        FewChanges x = withOrder();
        check.refused("undo()", x::undo, Check.TURN);
        for (int number = 0; number < 4; number++) {
            int n = number;
            check.refused("told(" + n + ")", () -> x.told(n), Check.TURN);
            check.refused("compare(" + n + ")", () -> x.compare(n), Check.TURN);
            check.refused("use(" + n + ")", () -> x.use(n), Check.TURN);
        }
        World.some();
        check.due("objects share nothing", () -> new FewChanges().order(0, 0), 0);
    }

    private static void orderNumbers() {
        check.sentence("2: One more order: its number");
        FewChanges x = new FewChanges();
        for (int order = 0; order < 8; order++) {
            check.refused("order(10, 0)", () -> x.order(10, 0), Check.RANGE);
            check.due("order(0, 0)", () -> x.order(0, 0), order);
        }
    }

    private static void orderTurn() {
        check.sentence("2: Turn: there are 8");
        FewChanges x = new FewChanges();
        for (int order = 0; order < 7; order++) {
            x.order(order, 0);
        }
        check.due("the eighth", () -> x.order(9, 7), 7);
        check.refused("a ninth", () -> x.order(8, 8), Check.TURN);
        check.refused("a ninth again", () -> x.order(8, 8), Check.TURN);
        check.due("a heat of the eighth", () -> x.heat(7, 10, 1, 0, 0), 0);
        check.due("is due as the eighth is", x::cost, 3);
        check.refused("has its grade", () -> x.divert(0, 6), Check.MEANING);
        check.refused("a heat of the ninth", () -> x.heat(8, 1, 1, 0, 30), Check.INDEX);
        check.refusedInVain("a ninth", () -> World.with(8, 3, 2), y -> y.order(8, 8), Check.TURN);
    }

    private static void orderGrades() {
        check.sentence("2: range: grade (0 .. 9)");
        FewChanges x = new FewChanges();
        for (int grade : Check.outside(0, 9)) {
            check.refused("order(" + grade + ", 0)", () -> x.order(grade, 0), Check.RANGE);
        }
        check.due("order(0, 60)", () -> x.order(0, 60), 0);
        check.due("order(9, 60)", () -> x.order(9, 60), 1);
        check.due("order(0, 0)", () -> x.order(0, 0), 2);
        check.due("order(9, 0)", () -> x.order(9, 0), 3);
        x.heat(0, 1, 1, 0, 0);
        x.heat(1, 1, 1, 0, 1);
        check.refused("grade 0 is not 9", () -> x.divert(0, 3), Check.MEANING);
        check.done("grade 0", () -> x.divert(0, 2));
        check.refused("grade 9 is not 0", () -> x.divert(1, 2), Check.MEANING);
        check.done("grade 9", () -> x.divert(1, 3));
    }

    private static void orderDues() {
        check.sentence("2: range: due (0 .. 200)");
        FewChanges x = new FewChanges();
        for (int due : Check.outside(0, 200)) {
            check.refused("order(0, " + due + ")", () -> x.order(0, due), Check.RANGE);
        }
        check.due("order(0, 0)", () -> x.order(0, 0), 0);
        check.due("order(0, 200)", () -> x.order(0, 200), 1);
        x.heat(0, 20, 1, 0, 40);
        check.due("due at 0", x::cost, 60);
        x.divert(0, 1);
        check.due("due at 200", x::cost, 0);
    }

    private static void orderChecksInOrder() {
        check.sentence("2: turn ahead of range");
        FewChanges x = World.with(8, 3, 2);
        check.refused("grade", () -> x.order(10, 0), Check.TURN);
        check.refused("due", () -> x.order(0, 201), Check.TURN);
        check.refused("both", () -> x.order(-1, -1), Check.TURN);
    }

    private static void orderRefusedInVain() {
        check.sentence("2: what is refused changes nothing");
        check.refusedInVain("order(10, 0)", World::some, x -> x.order(10, 0), Check.RANGE);
        check.refusedInVain("order(-1, 0)", World::some, x -> x.order(-1, 0), Check.RANGE);
        check.refusedInVain("order(0, 201)", World::some, x -> x.order(0, 201), Check.RANGE);
        check.refusedInVain("order(0, -1)", World::some, x -> x.order(0, -1), Check.RANGE);
    }

    private static void heatNumbers() {
        check.sentence("3: One more heat at a place: its number");
        FewChanges x = withOrder();
        for (int heat = 0; heat < 6; heat++) {
            int h = heat;
            check.refused("at(" + h + ", 0)", () -> x.at(h, 0), Check.INDEX);
            check.refused("one that does not fit", () -> x.heat(0, 20, 7, h / 2, 41), Check.MEANING);
            check.due("heat()", () -> x.heat(0, 20, 7, h / 2, 30 * (h % 2)), h);
            check.due("its unit", () -> x.at(h, 0), h / 2);
            check.due("its minute", () -> x.at(h, 1), 30 * (h % 2));
            check.due("its order", () -> x.at(h, 2), 0);
        }
    }

    private static void heatLeavesNothingToUndo() {
        check.sentence("3: there is nothing to undo then");
        FewChanges x = withOrder();
        x.order(0, 9);
        x.heat(0, 1, 7, 0, 0);
        x.place(0, 0, 5);
        x.heat(0, 1, 7, 2, 0);
        check.refused("undo() of place()", x::undo, Check.TURN);
        check.due("heat 0 stands", () -> x.at(0, 1), 5);
        x.divert(0, 1);
        x.heat(0, 1, 7, 2, 1);
        check.refused("undo() of divert()", x::undo, Check.TURN);
        check.due("heat 0 is diverted", () -> x.at(0, 2), 1);
        x.keep(0);
        x.place(0, 0, 6);
        x.use(0);
        x.heat(0, 1, 7, 2, 2);
        check.refused("undo() of use()", x::undo, Check.TURN);
        check.due("heat 0 stands", () -> x.at(0, 1), 5);
        x.stop(0, 5, 6);
        check.due("run()", () -> x.run(100000), 1);
        x.heat(0, 1, 7, 2, 3);
        check.refused("undo() of run()", x::undo, Check.TURN);
        check.due("heat 0 stands", () -> x.at(0, 1), 0);
        x.place(0, 0, 7);
        check.done("undo() of what comes behind it", x::undo);
        check.due("heat 0 stands", () -> x.at(0, 1), 0);
    }

    private static void heatCopiesAreGone() {
        check.sentence("3: copies are gone");
        FewChanges x = withOrder();
        x.heat(0, 1, 7, 0, 0);
        for (int copy = 0; copy < 4; copy++) {
            x.keep(copy);
        }
        x.heat(0, 1, 7, 0, 1);
        for (int copy = 0; copy < 4; copy++) {
            int c = copy;
            check.refused("compare(" + c + ")", () -> x.compare(c), Check.TURN);
            check.refused("use(" + c + ")", () -> x.use(c), Check.TURN);
        }
        x.keep(3);
        check.due("kept anew", () -> x.compare(3), 0);
        check.refused("the others are not", () -> x.compare(2), Check.TURN);
    }

    private static void heatOrders() {
        check.sentence("3: Index: no such order");
        FewChanges x = World.with(3, 3, 2);
        for (int order : Check.outside(0, 2)) {
            check.refused("heat(" + order + ", ..)", () -> x.heat(order, 1, 1, 0, 59), Check.INDEX);
        }
        check.due("the first order", () -> x.heat(0, 1, 1, 0, 59), 3);
        check.due("the last order", () -> x.heat(2, 1, 1, 0, 58), 4);
    }

    private static void heatUnits() {
        check.sentence("3: Index: no such unit");
        FewChanges x = withOrder();
        for (int unit : Check.outside(0, 2)) {
            check.refused("unit " + unit, () -> x.heat(0, 1, 7, unit, 0), Check.INDEX);
        }
        for (int unit = 0; unit < 3; unit++) {
            int u = unit;
            check.due("unit " + u, () -> x.heat(0, 1, 7, u, 0), u);
        }
    }

    private static void heatTurn() {
        check.sentence("3: turn: there are 6");
        FewChanges x = World.with(3, 5, 2);
        check.due("the sixth", () -> x.heat(0, 1, 1, 0, 59), 5);
        check.refused("a seventh", () -> x.heat(0, 1, 1, 0, 58), Check.TURN);
        check.refused("a seventh again", () -> x.heat(0, 1, 1, 0, 58), Check.TURN);
        check.due("it is none", () -> x.on(0, 58), -1);
        check.refused("it is none", () -> x.at(6, 0), Check.INDEX);
        check.refusedInVain("a seventh", () -> World.with(3, 6, 2), y -> y.heat(0, 1, 1, 0, 58), Check.TURN);
    }

    private static void heatLengths() {
        check.sentence("3: range: length (1 .. 20)");
        FewChanges x = withOrder();
        for (int length : Check.outside(1, 20)) {
            check.refused("length " + length, () -> x.heat(0, length, 1, 0, 0), Check.RANGE);
        }
        check.due("length 1", () -> x.heat(0, 1, 1, 0, 0), 0);
        check.due("its one minute", () -> x.on(0, 0), 0);
        check.due("none behind it", () -> x.on(0, 1), -1);
        check.due("length 20", () -> x.heat(0, 20, 1, 0, 1), 1);
        check.due("its last minute", () -> x.on(0, 20), 1);
        check.due("none behind it", () -> x.on(0, 21), -1);
    }

    private static void heatUnitBits() {
        check.sentence("3: range: units (1 .. 7: bits)");
        FewChanges x = withOrder();
        for (int units : Check.outside(1, 7)) {
            check.refused("units " + units, () -> x.heat(0, 1, units, 0, 0), Check.RANGE);
        }
        // Bit 0 among others that are none.
        check.refused("units 9", () -> x.heat(0, 1, 9, 0, 0), Check.RANGE);
        check.refused("units 15", () -> x.heat(0, 1, 15, 0, 0), Check.RANGE);
        check.due("units 1", () -> x.heat(0, 1, 1, 0, 0), 0);
        check.due("units 7", () -> x.heat(0, 1, 7, 0, 1), 1);
    }

    private static void heatMinutes() {
        check.sentence("3: range: the minute (0 .. 59)");
        FewChanges x = withOrder();
        for (int minute : Check.outside(0, 59)) {
            check.refused("minute " + minute, () -> x.heat(0, 1, 1, 0, minute), Check.RANGE);
            check.refused("20 minutes from " + minute, () -> x.heat(0, 20, 1, 0, minute), Check.RANGE);
        }
        check.due("minute 0", () -> x.heat(0, 1, 1, 0, 0), 0);
        check.due("minute 59", () -> x.heat(0, 1, 1, 0, 59), 1);
    }

    private static void heatChecksInOrder() {
        check.sentence("3: index, turn, range, meaning, in this order");
        FewChanges full = World.with(3, 6, 2);
        check.refused("order ahead of turn", () -> full.heat(3, 1, 1, 0, 59), Check.INDEX);
        check.refused("unit ahead of turn", () -> full.heat(0, 1, 1, 3, 59), Check.INDEX);
        check.refused("turn ahead of length", () -> full.heat(0, 21, 1, 0, 59), Check.TURN);
        check.refused("turn ahead of units", () -> full.heat(0, 1, 8, 0, 59), Check.TURN);
        check.refused("turn ahead of minute", () -> full.heat(0, 1, 1, 0, 60), Check.TURN);
        check.refused("turn ahead of meaning", () -> full.heat(0, 1, 2, 0, 59), Check.TURN);
        FewChanges x = World.some();
        check.refused("order ahead of length", () -> x.heat(3, 0, 1, 0, 59), Check.INDEX);
        check.refused("order ahead of units", () -> x.heat(-1, 1, 0, 0, 59), Check.INDEX);
        check.refused("order ahead of minute", () -> x.heat(3, 1, 1, 0, 60), Check.INDEX);
        check.refused("order ahead of meaning", () -> x.heat(3, 1, 2, 0, 59), Check.INDEX);
        check.refused("unit ahead of length", () -> x.heat(0, 0, 1, 3, 59), Check.INDEX);
        check.refused("unit ahead of units", () -> x.heat(0, 1, 8, 3, 59), Check.INDEX);
        check.refused("unit ahead of minute", () -> x.heat(0, 1, 1, -1, -1), Check.INDEX);
        check.refused("unit ahead of meaning", () -> x.heat(0, 20, 1, 3, 59), Check.INDEX);
        check.refused("length ahead of meaning", () -> x.heat(0, 21, 1, 0, 59), Check.RANGE);
        check.refused("units ahead of meaning", () -> x.heat(0, 20, 8, 0, 59), Check.RANGE);
        check.refused("minute ahead of meaning", () -> x.heat(0, 1, 2, 0, 60), Check.RANGE);
    }

    private static void heatRefusedInVain() {
        check.sentence("3: what is refused changes nothing");
        check.refusedInVain("no such order", World::some, x -> x.heat(3, 1, 1, 0, 59), Check.INDEX);
        check.refusedInVain("no such unit", World::some, x -> x.heat(0, 1, 1, 3, 59), Check.INDEX);
        check.refusedInVain("length", World::some, x -> x.heat(0, 0, 1, 0, 59), Check.RANGE);
        check.refusedInVain("units", World::some, x -> x.heat(0, 1, 8, 0, 59), Check.RANGE);
        check.refusedInVain("minute", World::some, x -> x.heat(0, 1, 1, 0, 60), Check.RANGE);
        check.refusedInVain("another unit", World::some, x -> x.heat(0, 1, 1, 1, 59), Check.MEANING);
        check.refusedInVain("behind 60", World::some, x -> x.heat(0, 2, 1, 0, 59), Check.MEANING);
        check.refusedInVain("a stop", World::some, x -> x.heat(0, 1, 4, 2, 39), Check.MEANING);
        check.refusedInVain("another heat", World::some, x -> x.heat(0, 1, 1, 0, 19), Check.MEANING);
    }

    private static void fitsWhereTheUnitMayTakeIt() {
        check.sentence("Terms: A heat fits at a place when the unit may take it");
        for (int units = 1; units <= 7; units++) {
            for (int unit = 0; unit < 3; unit++) {
                int u = unit;
                int bits = units;
                boolean may = (units & (1 << unit)) != 0;
                String where = "units " + units + ", unit " + unit;
                FewChanges x = withOrder();
                check.same(where + ": heat()", Check.answerOf(() -> x.heat(0, 1, bits, u, 0)),
                        may ? "0" : Check.MEANING);
                FewChanges y = withOrder();
                y.heat(0, 1, units, Integer.numberOfTrailingZeros(units), 30);
                check.same(where + ": place()", Check.answerOf(() -> y.place(0, u, 0)), may ? "0" : Check.MEANING);
            }
        }
    }

    private static void fitsUpToMinute60() {
        check.sentence("Terms: it ends at minute 60 or ahead of it");
        for (int length = 1; length <= 20; length++) {
            int l = length;
            FewChanges x = withOrder();
            if (length > 1) {
                check.refused(l + " minutes, to 61", () -> x.heat(0, l, 1, 0, 61 - l), Check.MEANING);
            }
            check.due(l + " minutes, to 60", () -> x.heat(0, l, 1, 0, 60 - l), 0);
            check.due("it fits", () -> x.at(0, 3), 1);
            check.done("to 59", () -> x.place(0, 0, 59 - l));
            check.done("to 60", () -> x.place(0, 0, 60 - l));
            if (length > 1) {
                check.refused(l + " minutes, place() to 61", () -> x.place(0, 0, 61 - l), Check.MEANING);
                check.refused(l + " minutes, place() at 59", () -> x.place(0, 0, 59), Check.MEANING);
            }
        }
    }

    private static void fitsClearOfStops() {
        check.sentence("Terms: no stop of the unit has a minute of it");
        for (int minute = 0; minute <= 55; minute++) {
            int m = minute;
            FewChanges x = withOrder();
            x.stop(1, 20, 23);
            x.stop(0, 0, 60);
            x.stop(1, 40, 50);
            x.stop(2, 0, 60);
            boolean clear = m + 5 <= 20 || m >= 23 && m + 5 <= 40 || m >= 50;
            check.same("heat() at " + m, Check.answerOf(() -> x.heat(0, 5, 2, 1, m)), clear ? "0" : Check.MEANING);
            FewChanges y = withOrder();
            y.heat(0, 5, 2, 1, m);
            y.stop(0, 0, 60);
            y.stop(1, 20, 23);
            y.stop(1, 40, 50);
            check.due("at() of one at " + m, () -> y.at(0, 3), clear ? 1 : 0);
        }
    }

    private static void fitsClearOfHeats() {
        check.sentence("Terms: no other heat on the unit has one");
        FewChanges x = withOrder();
        x.heat(0, 3, 7, 1, 20);
        x.heat(0, 10, 7, 1, 40);
        x.heat(0, 20, 7, 0, 20);
        x.heat(0, 5, 7, 2, 0);
        for (int minute = 0; minute <= 55; minute++) {
            int m = minute;
            boolean clear = m + 5 <= 20 || m >= 23 && m + 5 <= 40 || m >= 50;
            check.same("place() at " + m, Check.answerOf(() -> x.place(3, 1, m)), clear ? "0" : Check.MEANING);
            check.due("it fits where it is", () -> x.at(3, 3), 1);
            FewChanges y = withOrder();
            y.heat(0, 3, 7, 1, 20);
            y.heat(0, 10, 7, 1, 40);
            check.same("heat() at " + m, Check.answerOf(() -> y.heat(0, 5, 7, 1, m)), clear ? "2" : Check.MEANING);
        }
        check.due("its own minutes are no other's", () -> x.at(3, 1), 55);
        check.done("within its own minutes", () -> x.place(3, 1, 53));
        check.done("at its own place", () -> x.place(3, 1, 53));
    }

    private static void lastCalls() {
        check.sentence("An object is used for at most 512 calls after it has been made");
        FewChanges x = withOrder();
        x.heat(0, 1, 7, 0, 0);
        for (int call = 2; call < 511; call++) {
            x.place(0, call % 3, call % 60);
        }
        check.done("call 511", x::undo);
        check.due("call 512", () -> x.at(0, 1), 509 % 60);
    }
}
