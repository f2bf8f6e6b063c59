/** Promises 1 to 8 and 11 to 13: orders, heats, stops, the clock, places by hand, and what is asked of a plan. */
public final class PlanningTest {
    private static final Check check = new Check("PlanningTest");

    public static void main(String[] args) {
        newObject();
        orders();
        heats();
        heatChecksInOrder();
        heatEdges();
        heatForgetsCopiesAndUndo();
        stops();
        stopChecksInOrder();
        goForgetsStops();
        clock();
        places();
        placeChecksInOrder();
        diverts();
        at();
        cost();
        on();
        check.end();
    }

    private static void newObject() {
        FewChanges x = new FewChanges();
        check.due("1: cost()", x::cost, 0);
        check.refused("1: at(0, 0)", () -> x.at(0, 0), Check.INDEX);
        check.refused("1: heat of order 0", () -> x.heat(0, 1, 1, 0, 0), Check.INDEX);
        check.refused("1: undo()", x::undo, Check.TURN);
        check.refused("1: told(0)", () -> x.told(0), Check.TURN);
        check.due("1: on(0, 0)", () -> x.on(0, 0), -1);
        for (int copy = 0; copy < 4; copy++) {
            int c = copy;
            check.refused("1: compare(" + c + ")", () -> x.compare(c), Check.TURN);
            check.refused("1: use(" + c + ")", () -> x.use(c), Check.TURN);
        }
        check.due("1: the first stop", () -> x.stop(0, 0, 1), 1);
        check.due("1: the first order", () -> x.order(0, 0), 0);
        check.due("1: the first heat", () -> x.heat(0, 1, 1, 0, 1), 0);
        check.due("1: not frozen at first", () -> x.at(0, 4), 0);
        FewChanges other = new FewChanges();
        check.due("1: objects share nothing", () -> other.order(5, 5), 0);
    }

    private static void orders() {
        FewChanges x = new FewChanges();
        check.refused("2: order(-1, 0)", () -> x.order(-1, 0), Check.RANGE);
        check.refused("2: order(10, 0)", () -> x.order(10, 0), Check.RANGE);
        check.refused("2: order(0, -1)", () -> x.order(0, -1), Check.RANGE);
        check.refused("2: order(0, 201)", () -> x.order(0, 201), Check.RANGE);
        check.refused("2: order(MIN, MAX)", () -> x.order(Integer.MIN_VALUE, Integer.MAX_VALUE), Check.RANGE);
        check.due("2: order(0, 0)", () -> x.order(0, 0), 0);
        check.due("2: order(9, 200)", () -> x.order(9, 200), 1);
        for (int order = 2; order < 8; order++) {
            check.due("2: order(3, 7)", () -> x.order(3, 7), order);
        }
        check.refused("2: a ninth order", () -> x.order(3, 7), Check.TURN);
        check.refused("2: turn ahead of range", () -> x.order(10, 201), Check.TURN);
        check.due("2: the eighth is an order", () -> x.heat(7, 1, 1, 0, 0), 0);
        check.refused("2: the ninth is none", () -> x.heat(8, 1, 1, 0, 1), Check.INDEX);
    }

    private static void heats() {
        FewChanges x = new FewChanges();
        x.order(1, 30);
        x.order(2, 50);
        check.due("3: the first", () -> x.heat(1, 20, 4, 2, 40), 0);
        check.due("3: its unit", () -> x.at(0, 0), 2);
        check.due("3: its minute", () -> x.at(0, 1), 40);
        check.due("3: its order", () -> x.at(0, 2), 1);
        check.due("3: the second", () -> x.heat(0, 1, 7, 2, 39), 1);
        check.due("3: cost", x::cost, 20 - 10 + 10);
        for (int heat = 2; heat < 6; heat++) {
            int minute = heat;
            check.due("3: one more", () -> x.heat(0, 1, 1, 0, minute), heat);
        }
        check.refused("3: a seventh", () -> x.heat(0, 1, 1, 0, 20), Check.TURN);
    }

    private static void heatChecksInOrder() {
        FewChanges x = new FewChanges();
        x.order(1, 30);
        for (int heat = 0; heat < 5; heat++) {
            x.heat(0, 1, 1, 0, heat);
        }
        check.refused("3: order -1", () -> x.heat(-1, 1, 1, 0, 9), Check.INDEX);
        check.refused("3: order 1", () -> x.heat(1, 0, 0, 0, 99), Check.INDEX);
        check.refused("3: unit -1", () -> x.heat(0, 1, 1, -1, 9), Check.INDEX);
        check.refused("3: unit 3, ahead of range", () -> x.heat(0, 0, 8, 3, 60), Check.INDEX);
        check.refused("3: length 0", () -> x.heat(0, 0, 1, 0, 9), Check.RANGE);
        check.refused("3: length 21", () -> x.heat(0, 21, 1, 0, 9), Check.RANGE);
        check.refused("3: units 0", () -> x.heat(0, 1, 0, 0, 9), Check.RANGE);
        check.refused("3: units 8", () -> x.heat(0, 1, 8, 0, 9), Check.RANGE);
        check.refused("3: units -1", () -> x.heat(0, 1, -1, 0, 9), Check.RANGE);
        check.refused("3: minute -1", () -> x.heat(0, 1, 1, 0, -1), Check.RANGE);
        check.refused("3: minute 60", () -> x.heat(0, 1, 1, 0, 60), Check.RANGE);
        check.refused("3: range ahead of meaning", () -> x.heat(0, 21, 1, 0, 0), Check.RANGE);
        check.refused("3: minute MAX", () -> x.heat(0, 20, 1, 0, Integer.MAX_VALUE), Check.RANGE);
        check.refused("3: no room", () -> x.heat(0, 1, 1, 0, 4), Check.MEANING);
        check.refused("3: a refused one is none", () -> x.at(5, 0), Check.INDEX);
        check.due("3: the sixth", () -> x.heat(0, 1, 1, 0, 9), 5);
        check.refused("3: index ahead of turn", () -> x.heat(0, 1, 1, 3, 9), Check.INDEX);
        check.refused("3: turn ahead of range", () -> x.heat(0, 0, 1, 0, 9), Check.TURN);
        check.refused("3: turn ahead of meaning", () -> x.heat(0, 1, 1, 0, 9), Check.TURN);
    }

    private static void heatEdges() {
        FewChanges x = new FewChanges();
        x.order(1, 30);
        x.stop(0, 10, 20);
        check.refused("3: a unit that may not take it", () -> x.heat(0, 5, 6, 0, 30), Check.MEANING);
        check.refused("3: ends behind 60", () -> x.heat(0, 5, 1, 0, 56), Check.MEANING);
        check.refused("3: ends far behind 60", () -> x.heat(0, 20, 1, 0, 59), Check.MEANING);
        check.refused("3: ends within the stop", () -> x.heat(0, 5, 1, 0, 6), Check.MEANING);
        check.refused("3: begins within the stop", () -> x.heat(0, 5, 1, 0, 19), Check.MEANING);
        check.refused("3: has the stop within", () -> x.heat(0, 12, 1, 0, 9), Check.MEANING);
        check.due("3: ends as the stop begins", () -> x.heat(0, 5, 1, 0, 5), 0);
        check.due("3: begins as the stop ends", () -> x.heat(0, 5, 1, 0, 20), 1);
        check.due("3: ends at 60", () -> x.heat(0, 5, 1, 0, 55), 2);
        check.refused("3: another heat's last minute", () -> x.heat(0, 2, 1, 0, 24), Check.MEANING);
        check.refused("3: another heat's first minute", () -> x.heat(0, 2, 1, 0, 54), Check.MEANING);
        check.due("3: behind another heat", () -> x.heat(0, 2, 1, 0, 25), 3);
        check.due("3: other units are free", () -> x.heat(0, 20, 2, 1, 10), 4);
        check.due("3: the last minute", () -> x.heat(0, 1, 4, 2, 59), 5);
    }

    private static void heatForgetsCopiesAndUndo() {
        FewChanges x = new FewChanges();
        x.order(1, 30);
        x.heat(0, 5, 1, 0, 0);
        x.keep(0);
        x.keep(3);
        x.place(0, 0, 10);
        check.refused("3: refused", () -> x.heat(0, 5, 1, 0, 12), Check.MEANING);
        check.due("3: a refused heat leaves the copies", () -> x.compare(0), 1);
        check.done("3: a refused heat leaves what can be undone", x::undo);
        x.place(0, 0, 10);
        check.due("3: heat", () -> x.heat(0, 5, 1, 0, 20), 1);
        check.refused("3: nothing to undo", x::undo, Check.TURN);
        check.refused("3: copy 0 is gone", () -> x.compare(0), Check.TURN);
        check.refused("3: copy 3 is gone", () -> x.use(3), Check.TURN);
        check.due("3: the others stand", () -> x.at(0, 1), 10);
    }

    private static void stops() {
        FewChanges x = new FewChanges();
        x.order(1, 30);
        x.heat(0, 10, 7, 1, 20);
        check.due("4: stop ahead of it", () -> x.stop(1, 0, 20), 1);
        check.due("4: it fits", () -> x.at(0, 3), 1);
        check.due("4: stop behind it", () -> x.stop(1, 30, 60), 2);
        check.due("4: it fits", () -> x.at(0, 3), 1);
        check.due("4: stops of other units", () -> x.stop(0, 0, 60), 3);
        check.due("4: stops of other units", () -> x.stop(2, 0, 60), 4);
        check.due("4: it fits", () -> x.at(0, 3), 1);
        check.due("4: its last minute", () -> x.stop(1, 29, 30), 5);
        check.due("4: it does not fit, and stands", () -> x.at(0, 3), 0);
        check.due("4: it stands", () -> x.at(0, 1), 20);
        check.due("4: the same stop again", () -> x.stop(1, 29, 30), 6);
        x.go();
        check.due("4: its first minute", () -> x.stop(1, 0, 21), 1);
        check.due("4: it does not fit", () -> x.at(0, 3), 0);
    }

    private static void stopChecksInOrder() {
        FewChanges x = new FewChanges();
        x.order(1, 30);
        x.heat(0, 20, 7, 0, 0);
        check.refused("4: unit -1", () -> x.stop(-1, 0, 1), Check.INDEX);
        check.refused("4: unit 3, ahead of range", () -> x.stop(3, 5, 5), Check.INDEX);
        check.refused("4: from -1", () -> x.stop(0, -1, 5), Check.RANGE);
        check.refused("4: to 61", () -> x.stop(0, 0, 61), Check.RANGE);
        check.refused("4: empty", () -> x.stop(0, 5, 5), Check.RANGE);
        check.refused("4: backwards", () -> x.stop(0, 6, 5), Check.RANGE);
        check.refused("4: both far off", () -> x.stop(0, 61, 62), Check.RANGE);
        check.refused("4: MIN to MAX", () -> x.stop(0, Integer.MIN_VALUE, Integer.MAX_VALUE), Check.RANGE);
        check.due("4: refused stops are none", () -> x.at(0, 3), 1);
        for (int stop = 1; stop <= 10; stop++) {
            check.due("4: stop(1, 59, 60)", () -> x.stop(1, 59, 60), stop);
        }
        check.refused("4: an eleventh", () -> x.stop(0, 0, 60), Check.TURN);
        check.refused("4: turn ahead of range", () -> x.stop(0, 5, 5), Check.TURN);
        check.refused("4: index ahead of turn", () -> x.stop(3, 0, 1), Check.INDEX);
        check.due("4: the eleventh is none", () -> x.at(0, 3), 1);
    }

    private static void goForgetsStops() {
        FewChanges x = new FewChanges();
        x.order(1, 30);
        check.done("5: go() without stops", x::go);
        for (int unit = 0; unit < 3; unit++) {
            x.heat(0, 20, 7, unit, 40);
        }
        for (int stop = 0; stop < 10; stop++) {
            x.stop(stop % 3, 0, 60);
        }
        check.done("5: go()", x::go);
        for (int unit = 0; unit < 3; unit++) {
            int heat = unit;
            check.due("5: it fits", () -> x.at(heat, 3), 1);
        }
        check.due("5: counted from one again", () -> x.stop(0, 0, 1), 1);
        check.due("5: places stand", () -> x.at(0, 1), 40);
    }

    private static void clock() {
        FewChanges x = new FewChanges();
        x.order(1, 30);
        x.heat(0, 5, 7, 0, 20);
        check.done("6: clock(20, 0)", () -> x.clock(20, 0));
        check.due("6: begins at now", () -> x.at(0, 4), 0);
        check.done("6: clock(21, 0)", () -> x.clock(21, 0));
        check.due("6: begins ahead of now", () -> x.at(0, 4), 1);
        check.done("6: clock(0, 20)", () -> x.clock(0, 20));
        check.due("6: begins as the freeze ends", () -> x.at(0, 4), 0);
        check.done("6: clock(5, 16)", () -> x.clock(5, 16));
        check.due("6: begins within the freeze", () -> x.at(0, 4), 1);
        check.refused("6: now -1", () -> x.clock(-1, 0), Check.RANGE);
        check.refused("6: now 61", () -> x.clock(61, 0), Check.RANGE);
        check.refused("6: freeze -1", () -> x.clock(0, -1), Check.RANGE);
        check.refused("6: freeze 61", () -> x.clock(0, 61), Check.RANGE);
        check.due("6: refused ones change nothing", () -> x.at(0, 4), 1);
        check.done("6: clock(60, 60)", () -> x.clock(60, 60));
        check.due("6: all are frozen", () -> x.at(0, 4), 1);
        check.done("6: clock(0, 0)", () -> x.clock(0, 0));
        check.due("6: back again", () -> x.at(0, 4), 0);
    }

    private static void places() {
        FewChanges x = new FewChanges();
        x.order(1, 30);
        x.heat(0, 10, 3, 0, 20);
        x.heat(0, 10, 3, 0, 40);
        check.done("7: over its own minutes", () -> x.place(0, 0, 25));
        check.due("7: its minute", () -> x.at(0, 1), 25);
        check.done("7: at its own place", () -> x.place(0, 0, 25));
        check.done("7: as the other begins", () -> x.place(0, 0, 30));
        check.refused("7: a minute of the other", () -> x.place(0, 0, 31), Check.MEANING);
        check.done("7: behind the other", () -> x.place(0, 0, 50));
        check.refused("7: behind the end", () -> x.place(0, 0, 51), Check.MEANING);
        check.done("7: another unit", () -> x.place(0, 1, 45));
        check.due("7: its unit", () -> x.at(0, 0), 1);
        check.refused("7: a unit that may not take it", () -> x.place(0, 2, 0), Check.MEANING);
        x.stop(1, 10, 20);
        check.refused("7: within a stop", () -> x.place(0, 1, 1), Check.MEANING);
        check.done("7: ahead of the stop", () -> x.place(0, 1, 0));
        x.stop(1, 0, 1);
        check.refused("7: its own place, where it does not fit", () -> x.place(0, 1, 0), Check.MEANING);
        check.due("7: the order stands", () -> x.at(0, 2), 0);
    }

    private static void placeChecksInOrder() {
        FewChanges x = new FewChanges();
        x.order(1, 30);
        x.heat(0, 10, 1, 0, 20);
        x.heat(0, 10, 1, 0, 40);
        x.clock(10, 11);
        check.refused("7: heat -1", () -> x.place(-1, 0, 0), Check.INDEX);
        check.refused("7: heat 2", () -> x.place(2, 0, 0), Check.INDEX);
        check.refused("7: unit -1", () -> x.place(1, -1, 0), Check.INDEX);
        check.refused("7: unit 3, of a frozen one", () -> x.place(0, 3, 60), Check.INDEX);
        check.refused("7: frozen, ahead of range", () -> x.place(0, 0, 60), Check.TURN);
        check.refused("7: frozen, ahead of meaning", () -> x.place(0, 1, 0), Check.TURN);
        check.refused("7: frozen", () -> x.place(0, 0, 30), Check.TURN);
        check.refused("7: minute -1", () -> x.place(1, 0, -1), Check.RANGE);
        check.refused("7: minute 60, ahead of meaning", () -> x.place(1, 1, 60), Check.RANGE);
        check.refused("7: no room", () -> x.place(1, 0, 29), Check.MEANING);
        check.refused("7: refused ones leave nothing to undo", x::undo, Check.TURN);
        check.due("7: heat 0 stands", () -> x.at(0, 1), 20);
        check.due("7: heat 1 stands", () -> x.at(1, 1), 40);
        check.done("7: into the frozen minutes", () -> x.place(1, 0, 0));
        check.due("7: where it is frozen", () -> x.at(1, 4), 1);
    }

    private static void diverts() {
        FewChanges x = new FewChanges();
        x.order(1, 30);
        x.order(1, 20);
        x.order(2, 0);
        x.heat(0, 10, 1, 0, 20);
        check.refused("8: heat -1", () -> x.divert(-1, 0), Check.INDEX);
        check.refused("8: heat 1", () -> x.divert(1, 0), Check.INDEX);
        check.refused("8: order -1", () -> x.divert(0, -1), Check.INDEX);
        check.refused("8: order 3", () -> x.divert(0, 3), Check.INDEX);
        check.refused("8: its own", () -> x.divert(0, 0), Check.MEANING);
        check.refused("8: another grade", () -> x.divert(0, 2), Check.MEANING);
        check.refused("8: refused ones leave nothing to undo", x::undo, Check.TURN);
        check.due("8: cost", x::cost, 0);
        x.clock(60, 60);
        check.done("8: a frozen one", () -> x.divert(0, 1));
        check.due("8: its order", () -> x.at(0, 2), 1);
        check.due("8: cost", x::cost, 10);
        check.refused("8: its own now", () -> x.divert(0, 1), Check.MEANING);
        check.done("8: back", () -> x.divert(0, 0));
        check.due("8: its place stands", () -> x.at(0, 1), 20);
        x.order(1, 29);
        check.done("8: an order that came later", () -> x.divert(0, 3));
        check.due("8: cost", x::cost, 1);
    }

    private static void at() {
        FewChanges x = new FewChanges();
        x.order(1, 30);
        x.order(1, 30);
        x.heat(1, 10, 4, 2, 7);
        check.due("11: unit", () -> x.at(0, 0), 2);
        check.due("11: minute", () -> x.at(0, 1), 7);
        check.due("11: order", () -> x.at(0, 2), 1);
        check.due("11: fits", () -> x.at(0, 3), 1);
        check.due("11: frozen", () -> x.at(0, 4), 0);
        check.refused("11: what -1", () -> x.at(0, -1), Check.INDEX);
        check.refused("11: what 5", () -> x.at(0, 5), Check.INDEX);
        check.refused("11: heat -1", () -> x.at(-1, 0), Check.INDEX);
        check.refused("11: heat 1", () -> x.at(1, 0), Check.INDEX);
        x.clock(0, 8);
        x.stop(2, 16, 17);
        check.due("11: does not fit", () -> x.at(0, 3), 0);
        check.due("11: frozen", () -> x.at(0, 4), 1);
    }

    private static void cost() {
        FewChanges x = new FewChanges();
        x.order(1, 0);
        x.order(1, 10);
        x.order(1, 200);
        x.heat(0, 20, 1, 0, 40);
        check.due("12: due at 0", x::cost, 60);
        x.heat(1, 10, 2, 1, 0);
        check.due("12: ends at its due minute", x::cost, 60);
        x.place(1, 1, 1);
        check.due("12: a minute behind", x::cost, 61);
        x.heat(2, 1, 4, 2, 0);
        check.due("12: ahead of it takes nothing off", x::cost, 61);
        x.stop(0, 0, 60);
        check.due("12: stops cost nothing", x::cost, 61);
    }

    private static void on() {
        FewChanges x = new FewChanges();
        x.order(1, 0);
        x.heat(0, 10, 7, 1, 20);
        x.heat(0, 10, 7, 1, 30);
        x.heat(0, 1, 7, 0, 59);
        check.due("13: ahead of it", () -> x.on(1, 19), -1);
        check.due("13: its first minute", () -> x.on(1, 20), 0);
        check.due("13: its last minute", () -> x.on(1, 29), 0);
        check.due("13: the next one's first", () -> x.on(1, 30), 1);
        check.due("13: behind all", () -> x.on(1, 40), -1);
        check.due("13: another unit", () -> x.on(0, 20), -1);
        check.due("13: the last minute", () -> x.on(0, 59), 2);
        check.due("13: an empty unit", () -> x.on(2, 0), -1);
        check.refused("13: unit -1", () -> x.on(-1, 0), Check.INDEX);
        check.refused("13: unit 3, ahead of range", () -> x.on(3, 60), Check.INDEX);
        check.refused("13: minute -1", () -> x.on(0, -1), Check.RANGE);
        check.refused("13: minute 60", () -> x.on(0, 60), Check.RANGE);
        x.stop(1, 20, 30);
        check.due("13: where it does not fit", () -> x.on(1, 25), 0);
    }
}
