/** Promises 7 and 8, placing and diverting by hand: a test for each bound. */
public final class BoundsOfPlacesTest {
    private static final Check check = new Check("BoundsOfPlacesTest");

    public static void main(String[] args) {
        placeHeats();
        placeWithoutHeats();
        placeUnits();
        placeTurn();
        placeMinutes();
        placeMeaning();
        placeFromWhereItDoesNotFit();
        placeNoRoomAtAll();
        placeChecksInOrder();
        placeRefusedInVain();
        placeChangesAPlaceOnly();
        divertHeats();
        divertOrders();
        divertGrades();
        divertToItsOwn();
        divertHasNoTurn();
        divertRefusedInVain();
        divertChangesAnOrderOnly();
        check.end();
    }

    private static void placeHeats() {
        check.sentence("7: Index: no such heat");
        FewChanges x = World.with(3, 5, 2);
        x.clock(0, 0);
        for (int heat : Check.outside(0, 4)) {
            check.refused("place(" + heat + ", 0, 50)", () -> x.place(heat, 0, 50), Check.INDEX);
        }
        check.done("the first", () -> x.place(0, 0, 50));
        check.done("the last", () -> x.place(4, 0, 55));
        check.due("the first is there", () -> x.on(0, 50), 0);
        check.due("the last is there", () -> x.on(0, 55), 4);
        FewChanges full = World.with(3, 6, 2);
        check.done("the sixth", () -> full.place(5, 0, 55));
        check.refused("a seventh", () -> full.place(6, 0, 50), Check.INDEX);
    }

    private static void placeWithoutHeats() {
        check.sentence("7: Index: no such heat (there is none yet)");
        FewChanges x = new FewChanges();
        check.refused("without orders", () -> x.place(0, 0, 0), Check.INDEX);
        x.order(0, 0);
        check.refused("with an order", () -> x.place(0, 0, 0), Check.INDEX);
    }

    private static void placeUnits() {
        check.sentence("7: Index: no such unit");
        FewChanges x = World.some();
        for (int unit : Check.outside(0, 2)) {
            check.refused("place(2, " + unit + ", 50)", () -> x.place(2, unit, 50), Check.INDEX);
        }
        for (int unit = 0; unit < 3; unit++) {
            int u = unit;
            check.done("place(2, " + u + ", 50)", () -> x.place(2, u, 50));
            check.due("its unit", () -> x.at(2, 0), u);
        }
    }

    private static void placeTurn() {
        check.sentence("7: turn: it is frozen");
        FewChanges x = new FewChanges();
        x.order(0, 0);
        x.heat(0, 1, 7, 0, 20);
        x.clock(10, 11);
        check.refused("it begins a minute ahead", () -> x.place(0, 0, 40), Check.TURN);
        check.refused("at its own place", () -> x.place(0, 0, 20), Check.TURN);
        x.clock(21, 0);
        check.refused("ahead of now alone", () -> x.place(0, 0, 40), Check.TURN);
        x.clock(10, 10);
        check.done("it begins as both end", () -> x.place(0, 0, 40));
        // Where it stands counts, not where it is put.
        check.done("to a frozen minute", () -> x.place(0, 0, 19));
        check.refused("it is frozen there", () -> x.place(0, 0, 40), Check.TURN);
        x.clock(60, 60);
        check.refused("all is frozen", () -> x.place(0, 0, 40), Check.TURN);
        x.clock(19, 0);
        check.done("it begins at now", () -> x.place(0, 0, 59));
        x.clock(59, 0);
        check.done("the last minute", () -> x.place(0, 0, 59));
        x.clock(60, 0);
        check.refused("the last minute", () -> x.place(0, 0, 59), Check.TURN);
    }

    private static void placeMinutes() {
        check.sentence("7: range: the minute (0 .. 59)");
        FewChanges x = World.some();
        for (int minute : Check.outside(0, 59)) {
            check.refused("place(2, 0, " + minute + ")", () -> x.place(2, 0, minute), Check.RANGE);
        }
        check.done("place(2, 1, 59)", () -> x.place(2, 1, 59));
        check.due("its minute", () -> x.at(2, 1), 59);
        check.done("place(2, 1, 0)", () -> x.place(2, 1, 0));
        check.due("its minute", () -> x.at(2, 1), 0);
    }

    private static void placeMeaning() {
        check.sentence("7: meaning: it does not fit there");
        FewChanges x = new FewChanges();
        x.order(0, 0);
        x.heat(0, 10, 3, 0, 0);
        x.heat(0, 10, 3, 0, 30);
        x.stop(1, 20, 30);
        check.refused("a unit that may not take it", () -> x.place(0, 2, 0), Check.MEANING);
        check.refused("to minute 61", () -> x.place(0, 0, 51), Check.MEANING);
        check.done("to minute 60", () -> x.place(0, 0, 50));
        check.refused("the stop's first minute", () -> x.place(0, 1, 11), Check.MEANING);
        check.done("up to the stop", () -> x.place(0, 1, 10));
        check.refused("the stop's last minute", () -> x.place(0, 1, 29), Check.MEANING);
        check.done("behind the stop", () -> x.place(0, 1, 30));
        check.refused("the heat's first minute", () -> x.place(0, 0, 21), Check.MEANING);
        check.done("up to the heat", () -> x.place(0, 0, 20));
        check.refused("the heat's last minute", () -> x.place(0, 0, 39), Check.MEANING);
        check.done("behind the heat", () -> x.place(0, 0, 40));
    }

    private static void placeFromWhereItDoesNotFit() {
        check.sentence("7: meaning: it does not fit there (where it stands does not matter)");
        FewChanges x = new FewChanges();
        x.order(0, 0);
        x.heat(0, 10, 1, 0, 10);
        x.stop(0, 19, 20);
        check.due("it does not fit", () -> x.at(0, 3), 0);
        check.refused("at its own place", () -> x.place(0, 0, 10), Check.MEANING);
        check.done("a minute ahead", () -> x.place(0, 0, 9));
        check.due("it fits", () -> x.at(0, 3), 1);
        check.done("at its own place", () -> x.place(0, 0, 9));
    }

    private static void placeNoRoomAtAll() {
        check.sentence("7: meaning: it does not fit there (no room left)");
        FewChanges x = new FewChanges();
        x.order(0, 0);
        for (int heat = 0; heat < 3; heat++) {
            x.heat(0, 20, 1, 0, 20 * heat);
        }
        x.heat(0, 1, 3, 1, 0);
        for (int minute = 0; minute < 60; minute++) {
            int m = minute;
            check.refused("place(3, 0, " + m + ")", () -> x.place(3, 0, m), Check.MEANING);
        }
        check.due("it stands", () -> x.at(3, 0), 1);
    }

    private static void placeChecksInOrder() {
        check.sentence("7: index, turn, range, meaning, in this order");
        FewChanges x = World.some();
        check.refused("heat ahead of range", () -> x.place(3, 0, 60), Check.INDEX);
        check.refused("heat ahead of meaning", () -> x.place(-1, 0, 19), Check.INDEX);
        check.refused("unit ahead of turn", () -> x.place(0, 3, 50), Check.INDEX);
        check.refused("unit ahead of range", () -> x.place(2, 3, 60), Check.INDEX);
        check.refused("unit ahead of all", () -> x.place(0, -1, -1), Check.INDEX);
        check.refused("turn ahead of range", () -> x.place(0, 0, 60), Check.TURN);
        check.refused("turn ahead of range", () -> x.place(0, 0, -1), Check.TURN);
        check.refused("turn ahead of meaning", () -> x.place(0, 2, 35), Check.TURN);
        x.clock(0, 0);
        check.refused("range ahead of meaning", () -> x.place(1, 2, 60), Check.RANGE);
        check.refused("range ahead of meaning", () -> x.place(1, 2, -1), Check.RANGE);
        check.refused("meaning", () -> x.place(1, 2, 59), Check.MEANING);
    }

    private static void placeRefusedInVain() {
        check.sentence("7: what is refused changes nothing");
        check.refusedInVain("no such heat", World::some, x -> x.place(3, 0, 50), Check.INDEX);
        check.refusedInVain("no such unit", World::some, x -> x.place(2, 3, 50), Check.INDEX);
        check.refusedInVain("frozen", World::some, x -> x.place(0, 0, 50), Check.TURN);
        check.refusedInVain("minute 60", World::some, x -> x.place(2, 0, 60), Check.RANGE);
        check.refusedInVain("minute -1", World::some, x -> x.place(2, 0, -1), Check.RANGE);
        check.refusedInVain("a heat is there", World::some, x -> x.place(2, 0, 19), Check.MEANING);
        check.refusedInVain("a stop is there", World::some, x -> x.place(2, 2, 30), Check.MEANING);
    }

    private static void placeChangesAPlaceOnly() {
        check.sentence("7: A heat is put at a place by hand");
        FewChanges x = World.some();
        x.keep(3);
        check.done("place(2, 2, 40)", () -> x.place(2, 2, 40));
        check.due("one heat is elsewhere", () -> x.compare(3), 1);
        check.due("its unit", () -> x.at(2, 0), 2);
        check.due("its minute", () -> x.at(2, 1), 40);
        check.due("its order", () -> x.at(2, 2), 2);
        check.due("it is there", () -> x.on(2, 40), 2);
        check.due("and where it was no more", () -> x.on(1, 20), -1);
    }

    private static FewChanges withGrades() {
        FewChanges x = new FewChanges();
        x.order(5, 30);
        x.order(4, 0);
        x.order(6, 0);
        x.order(5, 10);
        x.heat(0, 10, 1, 0, 20);
        x.heat(3, 10, 1, 0, 30);
        return x;
    }

    private static void divertHeats() {
        check.sentence("8: Index: no such heat");
        FewChanges none = new FewChanges();
        none.order(0, 0);
        none.order(0, 0);
        check.refused("there is none yet", () -> none.divert(0, 1), Check.INDEX);
        FewChanges x = withGrades();
        for (int heat : Check.outside(0, 1)) {
            check.refused("divert(" + heat + ", 3)", () -> x.divert(heat, 3), Check.INDEX);
        }
        check.refused("index ahead of meaning", () -> x.divert(2, 1), Check.INDEX);
        check.done("the first", () -> x.divert(0, 3));
        check.done("the last", () -> x.divert(1, 0));
    }

    private static void divertOrders() {
        check.sentence("8: Index: no such order");
        FewChanges x = withGrades();
        for (int order : Check.outside(0, 3)) {
            check.refused("divert(0, " + order + ")", () -> x.divert(0, order), Check.INDEX);
        }
        check.done("the last order", () -> x.divert(0, 3));
        check.done("the first order", () -> x.divert(0, 0));
        x.order(5, 0);
        check.done("one that is new", () -> x.divert(0, 4));
        check.refused("none behind it", () -> x.divert(0, 5), Check.INDEX);
    }

    private static void divertGrades() {
        check.sentence("8: meaning: it has another grade");
        FewChanges x = withGrades();
        check.refused("a grade below", () -> x.divert(0, 1), Check.MEANING);
        check.refused("a grade above", () -> x.divert(0, 2), Check.MEANING);
        check.done("the same grade", () -> x.divert(0, 3));
        check.refused("a grade below still", () -> x.divert(0, 1), Check.MEANING);
        check.refused("a grade above still", () -> x.divert(0, 2), Check.MEANING);
    }

    private static void divertToItsOwn() {
        check.sentence("8: meaning: or is its own already");
        FewChanges x = withGrades();
        check.refused("its first one", () -> x.divert(0, 0), Check.MEANING);
        check.done("another", () -> x.divert(0, 3));
        check.refused("its own now", () -> x.divert(0, 3), Check.MEANING);
        check.done("the first one is another now", () -> x.divert(0, 0));
        // Order 3 is heat 1's own, but not heat 0's.
        check.refused("heat 1's own", () -> x.divert(1, 3), Check.MEANING);
        check.done("to another heat's order", () -> x.divert(0, 3));
    }

    private static void divertHasNoTurn() {
        check.sentence("8: Index, meaning: no turn, and no room is asked for");
        FewChanges x = withGrades();
        x.clock(60, 60);
        x.stop(0, 0, 60);
        check.done("frozen and not fitting", () -> x.divert(0, 3));
        check.due("its order", () -> x.at(0, 2), 3);
    }

    private static void divertRefusedInVain() {
        check.sentence("8: what is refused changes nothing");
        check.refusedInVain("no such heat", World::some, x -> x.divert(3, 0), Check.INDEX);
        check.refusedInVain("no such heat", World::some, x -> x.divert(-1, 0), Check.INDEX);
        check.refusedInVain("no such order", World::some, x -> x.divert(0, 3), Check.INDEX);
        check.refusedInVain("no such order", World::some, x -> x.divert(0, -1), Check.INDEX);
        check.refusedInVain("another grade", World::some, x -> x.divert(0, 2), Check.MEANING);
        check.refusedInVain("its own", World::some, x -> x.divert(0, 1), Check.MEANING);
    }

    private static void divertChangesAnOrderOnly() {
        check.sentence("8: A heat gets another order");
        FewChanges x = withGrades();
        x.keep(0);
        check.due("cost", x::cost, 30);
        check.done("divert(0, 3)", () -> x.divert(0, 3));
        check.due("cost by the new order", x::cost, 20 + 30);
        check.due("its unit", () -> x.at(0, 0), 0);
        check.due("its minute", () -> x.at(0, 1), 20);
        check.due("heat 1's order", () -> x.at(1, 2), 3);
        check.due("one heat is another", () -> x.compare(0), 1);
    }
}
