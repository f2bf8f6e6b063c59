/** Promises 14 to 17 and what "Terms" says of copies and undoing: a test for each bound. */
public final class BoundsOfCopiesTest {
    private static final Check check = new Check("BoundsOfCopiesTest");

    public static void main(String[] args) {
        keepCopies();
        keepPlacesAndOrders();
        keepWithoutHeats();
        keepAgain();
        keepIsNoStepToUndo();
        keepRefusedInVain();
        compareCopies();
        compareTurn();
        compareFromNoneToAll();
        compareAPlaceOrAnOrder();
        compareChangesNothing();
        useCopies();
        useTurn();
        useAsItIs();
        useLeavesTheCopy();
        useRefusedInVain();
        undoTurn();
        undoOnce();
        undoTheLatest();
        undoOfEach();
        undoSeesRunsThatChangedSomething();
        undoSeesCallsThatChangedNothing();
        undoSeesCallsThatWereDone();
        undoSeesTheFourCallsOnly();
        undoBringsBackWhatWasAhead();
        undoRefusedInVain();
        check.end();
    }

    /** Six heats of one minute on unit 0, and two orders of one grade. */
    private static FewChanges sixHeats() {
        FewChanges x = new FewChanges();
        x.order(4, 60);
        x.order(4, 20);
        for (int heat = 0; heat < 6; heat++) {
            x.heat(0, 1, 7, 0, 10 * heat);
        }
        return x;
    }

    private static void keepCopies() {
        check.sentence("14: Index: no such copy (0 .. 3)");
        FewChanges x = sixHeats();
        for (int copy : Check.outside(0, 3)) {
            check.refused("keep(" + copy + ")", () -> x.keep(copy), Check.INDEX);
        }
        for (int copy = 0; copy < 4; copy++) {
            int c = copy;
            check.refused("not kept yet", () -> x.compare(c), Check.TURN);
            check.done("keep(" + c + ")", () -> x.keep(c));
            check.due("kept", () -> x.compare(c), 0);
        }
    }

    private static void keepPlacesAndOrders() {
        check.sentence("Terms: Copies keep a plan (all heats' places and orders)");
        FewChanges x = sixHeats();
        x.divert(5, 1);
        for (int copy = 0; copy < 4; copy++) {
            x.place(0, 1, copy);
            x.place(5, 2, 50 + copy);
            x.keep(copy);
        }
        x.divert(5, 0);
        x.place(0, 0, 0);
        for (int copy = 0; copy < 4; copy++) {
            int c = copy;
            x.use(copy);
            check.due("unit of the first", () -> x.at(0, 0), 1);
            check.due("minute of the first", () -> x.at(0, 1), c);
            check.due("unit of the last", () -> x.at(5, 0), 2);
            check.due("minute of the last", () -> x.at(5, 1), 50 + c);
            check.due("order of the first", () -> x.at(0, 2), 0);
            check.due("order of the last", () -> x.at(5, 2), 1);
        }
    }

    private static void keepWithoutHeats() {
        check.sentence("14: Keeps the plan as a copy (of no heats)");
        FewChanges x = new FewChanges();
        check.done("keep(3)", () -> x.keep(3));
        check.due("compare(3)", () -> x.compare(3), 0);
        check.done("use(3)", () -> x.use(3));
        check.done("undo()", x::undo);
        x.order(0, 0);
        check.due("an order leaves it", () -> x.compare(3), 0);
        x.heat(0, 1, 1, 0, 0);
        check.refused("a heat does not", () -> x.compare(3), Check.TURN);
    }

    private static void keepAgain() {
        check.sentence("14: Keeps the plan as a copy (over another)");
        FewChanges x = sixHeats();
        x.keep(0);
        x.keep(1);
        x.place(3, 1, 3);
        check.done("keep(1) again", () -> x.keep(1));
        check.due("copy 1 is the plan", () -> x.compare(1), 0);
        check.due("copy 0 is not", () -> x.compare(0), 1);
    }

    private static void keepIsNoStepToUndo() {
        check.sentence("14: Keeps the plan as a copy (which stands as it did)");
        check.sameLook("the plan", World::some, x -> x.keep(1), Look::atPlan);
        check.sameLook("told()", World::some, x -> x.keep(1), Look::atTold);
        check.sameLook("orders, heats and stops", World::some, x -> x.keep(1), Look::atShop);
        FewChanges x = sixHeats();
        x.keep(0);
        check.refused("nothing to undo", x::undo, Check.TURN);
        x.place(0, 1, 1);
        x.keep(0);
        check.done("place() can be undone", x::undo);
        check.due("copy 0 stands", () -> x.compare(0), 1);
    }

    private static void keepRefusedInVain() {
        check.sentence("14: what is refused changes nothing");
        check.refusedInVain("keep(4)", World::some, x -> x.keep(4), Check.INDEX);
        check.refusedInVain("keep(-1)", World::some, x -> x.keep(-1), Check.INDEX);
    }

    private static void compareCopies() {
        check.sentence("15: Index: no such copy (0 .. 3)");
        FewChanges x = sixHeats();
        for (int copy : Check.outside(0, 3)) {
            check.refused("none is kept: compare(" + copy + ")", () -> x.compare(copy), Check.INDEX);
        }
        for (int copy = 0; copy < 4; copy++) {
            x.keep(copy);
        }
        for (int copy : Check.outside(0, 3)) {
            check.refused("all are kept: compare(" + copy + ")", () -> x.compare(copy), Check.INDEX);
        }
        check.due("compare(0)", () -> x.compare(0), 0);
        check.due("compare(3)", () -> x.compare(3), 0);
    }

    private static void compareTurn() {
        check.sentence("15: turn: it was not kept");
        for (int kept = 0; kept < 4; kept++) {
            FewChanges x = sixHeats();
            x.keep(kept);
            for (int copy = 0; copy < 4; copy++) {
                int c = copy;
                check.same("copy " + kept + " is kept, compare(" + c + ")", Check.answerOf(() -> x.compare(c)),
                        copy == kept ? "0" : Check.TURN);
            }
        }
    }

    private static void compareFromNoneToAll() {
        check.sentence("15: How many heats have another place or order in a copy");
        FewChanges x = sixHeats();
        x.keep(2);
        check.due("none", () -> x.compare(2), 0);
        for (int heat = 0; heat < 6; heat++) {
            x.place(heat, 1, 10 * heat);
            int moved = heat + 1;
            check.due(moved + " heats", () -> x.compare(2), moved);
        }
        for (int heat = 0; heat < 6; heat++) {
            x.place(heat, 0, 10 * heat);
            int back = heat + 1;
            check.due(back + " are back", () -> x.compare(2), 6 - back);
        }
    }

    private static void compareAPlaceOrAnOrder() {
        check.sentence("15: another place or order");
        FewChanges x = sixHeats();
        x.keep(0);
        x.place(1, 1, 10);
        check.due("a unit", () -> x.compare(0), 1);
        x.place(1, 0, 11);
        check.due("a minute", () -> x.compare(0), 1);
        x.place(1, 2, 12);
        check.due("both", () -> x.compare(0), 1);
        x.divert(1, 1);
        check.due("all three are one heat", () -> x.compare(0), 1);
        x.place(1, 0, 10);
        check.due("an order", () -> x.compare(0), 1);
        x.divert(1, 0);
        check.due("back again", () -> x.compare(0), 0);
    }

    private static void compareChangesNothing() {
        check.sentence("15: what is asked changes nothing, refused or not");
        check.refusedInVain("compare(4)", World::some, x -> x.compare(4), Check.INDEX);
        check.refusedInVain("compare(1)", World::some, x -> x.compare(1), Check.TURN);
        check.inVain("compare(0)", World::some, x -> x.compare(0));
    }

    private static void useCopies() {
        check.sentence("16: Index: no such copy (0 .. 3)");
        FewChanges x = sixHeats();
        for (int copy : Check.outside(0, 3)) {
            check.refused("none is kept: use(" + copy + ")", () -> x.use(copy), Check.INDEX);
        }
        for (int copy = 0; copy < 4; copy++) {
            x.keep(copy);
        }
        for (int copy : Check.outside(0, 3)) {
            check.refused("all are kept: use(" + copy + ")", () -> x.use(copy), Check.INDEX);
        }
        check.done("use(0)", () -> x.use(0));
        check.done("use(3)", () -> x.use(3));
    }

    private static void useTurn() {
        check.sentence("16: turn: it was not kept");
        for (int kept = 0; kept < 4; kept++) {
            FewChanges x = sixHeats();
            x.keep(kept);
            for (int copy = 0; copy < 4; copy++) {
                int c = copy;
                check.same("copy " + kept + " is kept, use(" + c + ")", Check.answerOf(() -> x.use(c)),
                        copy == kept ? "0" : Check.TURN);
            }
        }
    }

    private static void useAsItIs() {
        check.sentence("16: The plan is that of a copy (as it is, frozen or not, fitting or not)");
        FewChanges x = sixHeats();
        x.divert(0, 1);
        x.keep(1);
        x.divert(0, 0);
        x.place(0, 1, 30);
        x.clock(60, 60);
        check.done("frozen", () -> x.use(1));
        check.due("its unit", () -> x.at(0, 0), 0);
        check.due("its minute", () -> x.at(0, 1), 0);
        check.due("its order", () -> x.at(0, 2), 1);
        x.clock(0, 0);
        x.place(0, 1, 30);
        x.stop(0, 0, 1);
        check.done("not fitting", () -> x.use(1));
        check.due("its unit", () -> x.at(0, 0), 0);
        check.due("it does not fit", () -> x.at(0, 3), 0);
        x.place(0, 1, 30);
        x.clock(60, 0);
        check.done("both", () -> x.use(1));
        check.due("its unit", () -> x.at(0, 0), 0);
        check.due("stops stand", () -> x.stop(0, 0, 1), 2);
        check.due("the clock stands", () -> x.at(5, 4), 1);
    }

    private static void useLeavesTheCopy() {
        check.sentence("16: The plan is that of a copy (which is kept still)");
        FewChanges x = sixHeats();
        x.keep(0);
        x.place(0, 1, 1);
        x.keep(3);
        x.use(0);
        check.due("copy 0", () -> x.compare(0), 0);
        check.due("copy 3", () -> x.compare(3), 1);
        x.place(5, 2, 2);
        check.due("the plan changes alone", () -> x.compare(0), 1);
        check.done("use(0) again", () -> x.use(0));
        check.due("as it was kept", () -> x.at(5, 0), 0);
        check.done("use(3)", () -> x.use(3));
        check.due("as it was kept", () -> x.at(0, 0), 1);
    }

    private static void useRefusedInVain() {
        check.sentence("16: what is refused changes nothing");
        check.refusedInVain("use(4)", World::some, x -> x.use(4), Check.INDEX);
        check.refusedInVain("use(-1)", World::some, x -> x.use(-1), Check.INDEX);
        check.refusedInVain("use(1)", World::some, x -> x.use(1), Check.TURN);
        check.refusedInVain("use(3)", World::some, x -> x.use(3), Check.TURN);
    }

    private static void undoTurn() {
        check.sentence("17: Turn: there is nothing to undo");
        FewChanges x = new FewChanges();
        check.refused("a new object", x::undo, Check.TURN);
        x.order(0, 0);
        check.refused("an order", x::undo, Check.TURN);
        x.heat(0, 1, 1, 0, 0);
        check.refused("a heat", x::undo, Check.TURN);
        check.due("the heat stands", () -> x.at(0, 1), 0);
    }

    private static void undoOnce() {
        check.sentence("Terms: Undo brings back what was ahead of the latest call; once");
        FewChanges x = sixHeats();
        x.place(0, 1, 1);
        x.place(0, 1, 2);
        check.done("undo()", x::undo);
        check.due("the latest is undone", () -> x.at(0, 1), 1);
        check.refused("undo() again", x::undo, Check.TURN);
        check.refused("undo() once more", x::undo, Check.TURN);
        check.due("the one ahead of it stands", () -> x.at(0, 1), 1);
        x.place(0, 1, 3);
        check.done("one more call, one more undo()", x::undo);
        check.due("undone", () -> x.at(0, 1), 1);
        check.refused("once", x::undo, Check.TURN);
    }

    private static void undoTheLatest() {
        check.sentence("Terms: the latest call that was done");
        FewChanges x = sixHeats();
        x.keep(0);
        x.place(0, 1, 1);
        x.divert(0, 1);
        x.undo();
        check.due("divert() behind place(): the order", () -> x.at(0, 2), 0);
        check.due("divert() behind place(): the place", () -> x.at(0, 0), 1);
        x.divert(0, 1);
        x.use(0);
        x.undo();
        check.due("use() behind divert(): the order", () -> x.at(0, 2), 1);
        check.due("use() behind divert(): the place", () -> x.at(0, 0), 1);
        x.use(0);
        x.stop(0, 0, 1);
        x.run(100000);
        check.due("run() moves heat 0", () -> x.on(0, 0), -1);
        x.undo();
        check.due("run() behind use()", () -> x.at(0, 1), 0);
        check.due("run() behind use()", () -> x.at(0, 2), 0);
        x.run(100000);
        int unit = x.at(0, 0);
        int minute = x.at(0, 1);
        x.place(0, 2, 59);
        x.undo();
        check.due("place() behind run()", () -> x.at(0, 0), unit);
        check.due("place() behind run()", () -> x.at(0, 1), minute);
    }

    private static void undoOfEach() {
        check.sentence("Terms: of place(), run(), divert(), use()");
        FewChanges x = sixHeats();
        x.keep(3);
        x.place(5, 2, 59);
        check.done("of place()", x::undo);
        check.due("all is as it was", () -> x.compare(3), 0);
        x.divert(5, 1);
        check.done("of divert()", x::undo);
        check.due("all is as it was", () -> x.compare(3), 0);
        x.stop(0, 0, 60);
        check.due("run()", () -> x.run(100000), 6);
        check.due("all six are elsewhere", () -> x.compare(3), 6);
        check.done("of run()", x::undo);
        check.due("all is as it was", () -> x.compare(3), 0);
        x.go();
        x.place(0, 1, 0);
        x.keep(0);
        x.use(3);
        check.done("of use()", x::undo);
        check.due("all is as it was", () -> x.compare(0), 0);
        check.refused("once", x::undo, Check.TURN);
    }

    private static void undoSeesRunsThatChangedSomething() {
        check.sentence("Terms: run() (that changed something)");
        FewChanges x = sixHeats();
        check.due("a good plan", () -> x.run(100000), 0);
        check.refused("nothing to undo", x::undo, Check.TURN);
        x.place(0, 1, 1);
        check.due("a good plan", () -> x.run(100000), 0);
        check.done("place() is the latest", x::undo);
        check.due("undone", () -> x.at(0, 0), 0);
        x.place(0, 1, 1);
        x.stop(1, 1, 2);
        check.due("a run that is spent", () -> x.run(0), -1);
        x.clock(60, 0);
        check.due("a run that finds nothing", () -> x.run(100000), -1);
        check.done("place() is the latest", x::undo);
        check.due("undone", () -> x.at(0, 0), 0);
        x.clock(0, 0);
        x.place(0, 2, 1);
        x.stop(2, 1, 2);
        check.due("a run that is spent and found something", () -> x.run(1), 1);
        check.due("spent", () -> x.told(0), 1);
        check.done("that run is the latest", x::undo);
        check.due("undone", () -> x.at(0, 0), 2);
        check.refused("once", x::undo, Check.TURN);
    }

    /** Only of run() is it asked that it changed something. */
    private static void undoSeesCallsThatChangedNothing() {
        check.sentence("Terms: call that was done of place(), divert(), use() (whether it changed something or not)");
        FewChanges x = sixHeats();
        x.divert(0, 1);
        check.done("place() where the heat is", () -> x.place(0, 0, 0));
        check.done("undo() of that place()", x::undo);
        check.due("not of the divert()", () -> x.at(0, 2), 1);
        check.refused("once", x::undo, Check.TURN);
        x.divert(0, 0);
        x.keep(2);
        check.done("use() of an equal copy", () -> x.use(2));
        check.done("undo() of that use()", x::undo);
        check.due("not of the divert()", () -> x.at(0, 2), 0);
        check.refused("once", x::undo, Check.TURN);
    }

    private static void undoSeesCallsThatWereDone() {
        check.sentence("Terms: call that was done (not refused)");
        FewChanges x = sixHeats();
        x.place(0, 1, 1);
        check.refused("place(6, 0, 0)", () -> x.place(6, 0, 0), Check.INDEX);
        check.refused("place(0, 0, 60)", () -> x.place(0, 0, 60), Check.RANGE);
        check.refused("place(0, 0, 10)", () -> x.place(0, 0, 10), Check.MEANING);
        x.clock(60, 60);
        check.refused("place(0, 0, 5)", () -> x.place(0, 0, 5), Check.TURN);
        check.refused("divert(0, 0)", () -> x.divert(0, 0), Check.MEANING);
        check.refused("divert(0, 2)", () -> x.divert(0, 2), Check.INDEX);
        check.refused("use(0)", () -> x.use(0), Check.TURN);
        check.refused("use(4)", () -> x.use(4), Check.INDEX);
        check.refused("run(-1)", () -> x.run(-1), Check.RANGE);
        check.refused("heat()", () -> x.heat(0, 1, 1, 0, 1), Check.TURN);
        check.done("undo() of the place()", x::undo);
        check.due("undone", () -> x.at(0, 0), 0);
    }

    private static void undoSeesTheFourCallsOnly() {
        check.sentence("Terms: the latest of place(), run(), divert(), use() (and of no other)");
        FewChanges x = sixHeats();
        x.place(0, 1, 1);
        x.order(4, 0);
        x.stop(2, 0, 1);
        x.go();
        x.stop(2, 0, 60);
        x.clock(20, 20);
        x.keep(0);
        x.compare(0);
        x.cost();
        x.on(0, 0);
        x.at(0, 0);
        check.done("undo() of the place()", x::undo);
        check.due("undone", () -> x.at(0, 0), 0);
        check.due("the order stands", () -> x.order(4, 0), 3);
        check.due("the stop stands", () -> x.stop(2, 0, 60), 2);
        check.due("now and the freeze stand, minute 30 is ahead of both together", () -> x.at(3, 4), 1);
        check.due("now and the freeze stand, minute 40 is not", () -> x.at(4, 4), 0);
        check.due("the copy stands", () -> x.compare(0), 1);
    }

    private static void undoBringsBackWhatWasAhead() {
        check.sentence("17: Undoes (frozen or not, fitting or not)");
        FewChanges x = sixHeats();
        x.place(0, 1, 1);
        x.clock(60, 60);
        x.stop(0, 0, 60);
        check.done("undo()", x::undo);
        check.due("its unit", () -> x.at(0, 0), 0);
        check.due("its minute", () -> x.at(0, 1), 0);
        check.due("it does not fit", () -> x.at(0, 3), 0);
    }

    private static FewChanges undone() {
        FewChanges x = World.some();
        x.undo();
        return x;
    }

    private static void undoRefusedInVain() {
        check.sentence("17: what is refused changes nothing");
        check.refusedInVain("undo()", BoundsOfCopiesTest::undone, FewChanges::undo, Check.TURN);
    }
}
