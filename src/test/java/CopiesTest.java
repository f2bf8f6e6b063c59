/** Promises 14 to 17: copies kept, compared and used, and undoing. */
public final class CopiesTest {
    private static final Check check = new Check("CopiesTest");

    public static void main(String[] args) {
        keepAndCompare();
        compareCountsHeats();
        useAsItIs();
        copyChecks();
        undoOfEach();
        undoOnce();
        undoSkipsWhatChangesNothing();
        undoLeavesTheRest();
        check.end();
    }

    /** Two orders of one grade, and three heats of length 10 in a row on unit 0. */
    private static FewChanges threeHeats() {
        FewChanges x = new FewChanges();
        x.order(4, 60);
        x.order(4, 20);
        for (int heat = 0; heat < 3; heat++) {
            x.heat(0, 10, 7, 0, heat * 10);
        }
        return x;
    }

    private static void keepAndCompare() {
        FewChanges x = threeHeats();
        check.done("14: keep(0)", () -> x.keep(0));
        check.due("15: the same", () -> x.compare(0), 0);
        x.place(0, 1, 0);
        check.due("15: another unit", () -> x.compare(0), 1);
        check.done("14: keep(3)", () -> x.keep(3));
        x.place(1, 0, 9);
        check.due("15: another minute", () -> x.compare(0), 2);
        check.due("15: copies are apart", () -> x.compare(3), 1);
        check.refused("15: not kept", () -> x.compare(1), Check.TURN);
        check.done("14: keep(0) again", () -> x.keep(0));
        check.due("15: kept anew", () -> x.compare(0), 0);
        check.due("15: the other copy stands", () -> x.compare(3), 1);
        x.order(4, 0);
        check.due("15: a new order leaves copies", () -> x.compare(0), 0);
    }

    private static void compareCountsHeats() {
        FewChanges x = threeHeats();
        x.keep(2);
        x.divert(1, 1);
        check.due("15: another order", () -> x.compare(2), 1);
        x.place(1, 2, 50);
        check.due("15: order and place count once", () -> x.compare(2), 1);
        x.place(0, 2, 0);
        x.divert(2, 1);
        check.due("15: all three", () -> x.compare(2), 3);
        x.divert(2, 0);
        check.due("15: back again", () -> x.compare(2), 2);
        FewChanges none = new FewChanges();
        none.keep(1);
        check.due("15: without heats", () -> none.compare(1), 0);
    }

    private static void useAsItIs() {
        FewChanges x = threeHeats();
        x.divert(0, 1);
        x.keep(1);
        x.place(0, 2, 30);
        x.divert(0, 0);
        x.stop(0, 0, 10);
        x.clock(60, 60);
        check.done("16: frozen, and not fitting", () -> x.use(1));
        check.due("16: unit", () -> x.at(0, 0), 0);
        check.due("16: minute", () -> x.at(0, 1), 0);
        check.due("16: order", () -> x.at(0, 2), 1);
        check.due("16: it does not fit", () -> x.at(0, 3), 0);
        check.due("16: the copy stands", () -> x.compare(1), 0);
        x.clock(0, 0);
        x.place(0, 0, 40);
        check.due("16: the copy is apart", () -> x.compare(1), 1);
        check.done("16: again", () -> x.use(1));
        check.due("16: minute", () -> x.at(0, 1), 0);
    }

    private static void copyChecks() {
        FewChanges x = threeHeats();
        for (int copy : new int[] {-1, 4, Integer.MIN_VALUE, Integer.MAX_VALUE}) {
            check.refused("14: keep(" + copy + ")", () -> x.keep(copy), Check.INDEX);
            check.refused("15: compare(" + copy + ")", () -> x.compare(copy), Check.INDEX);
            check.refused("16: use(" + copy + ")", () -> x.use(copy), Check.INDEX);
        }
        for (int copy = 0; copy < 4; copy++) {
            int c = copy;
            check.refused("15: not kept", () -> x.compare(c), Check.TURN);
            check.refused("16: not kept", () -> x.use(c), Check.TURN);
            check.refused("16: a refused one leaves nothing to undo", x::undo, Check.TURN);
            check.done("14: keep", () -> x.keep(c));
            check.done("16: use", () -> x.use(c));
            check.done("17: undo", x::undo);
        }
    }

    private static void undoOfEach() {
        FewChanges x = threeHeats();
        check.refused("17: nothing", x::undo, Check.TURN);
        x.place(0, 1, 5);
        check.done("17: of place", x::undo);
        check.due("17: unit", () -> x.at(0, 0), 0);
        check.due("17: minute", () -> x.at(0, 1), 0);
        x.divert(0, 1);
        check.done("17: of divert", x::undo);
        check.due("17: order", () -> x.at(0, 2), 0);
        x.keep(0);
        x.place(0, 1, 5);
        x.use(0);
        check.done("17: of use", x::undo);
        check.due("17: minute", () -> x.at(0, 1), 5);
        x.stop(1, 0, 60);
        check.due("17: run", () -> x.run(100000), 1);
        check.due("17: elsewhere", () -> x.on(1, 5), -1);
        check.done("17: of run", x::undo);
        check.due("17: minute", () -> x.at(0, 1), 5);
        check.due("17: unit", () -> x.at(0, 0), 1);
    }

    private static void undoOnce() {
        FewChanges x = threeHeats();
        x.place(0, 1, 5);
        x.place(0, 1, 6);
        check.done("17: the latest", x::undo);
        check.due("17: minute", () -> x.at(0, 1), 5);
        check.refused("17: once", x::undo, Check.TURN);
        check.due("17: minute", () -> x.at(0, 1), 5);
        x.place(0, 1, 5);
        check.done("17: of a place that was its own", x::undo);
        x.keep(0);
        x.use(0);
        check.done("17: of a copy that was the same", x::undo);
        check.refused("17: once", x::undo, Check.TURN);
    }

    private static void undoSkipsWhatChangesNothing() {
        FewChanges x = threeHeats();
        x.place(0, 1, 5);
        check.due("17: a run that changes nothing", () -> x.run(100), 0);
        check.refused("17: refused", () -> x.place(0, 0, 15), Check.MEANING);
        check.refused("17: refused", () -> x.divert(0, 0), Check.MEANING);
        check.refused("17: refused", () -> x.use(2), Check.TURN);
        x.keep(1);
        x.stop(1, 5, 6);
        check.due("17: a run that finds nothing", () -> x.run(0), -1);
        x.clock(1, 1);
        x.go();
        x.order(1, 1);
        check.done("17: of the place", x::undo);
        check.due("17: unit", () -> x.at(0, 0), 0);
        check.due("17: minute", () -> x.at(0, 1), 0);
        check.refused("17: once", x::undo, Check.TURN);
    }

    private static void undoLeavesTheRest() {
        FewChanges x = threeHeats();
        x.keep(0);
        x.place(0, 1, 5);
        x.keep(1);
        x.stop(0, 0, 10);
        x.clock(3, 4);
        check.done("17: undo", x::undo);
        check.due("17: copies stand", () -> x.compare(0), 0);
        check.due("17: copies stand", () -> x.compare(1), 1);
        check.due("17: stops stand", () -> x.at(0, 3), 0);
        check.due("17: the clock stands", () -> x.at(0, 4), 1);
        check.due("17: stops stand", () -> x.stop(2, 0, 1), 2);
    }
}
