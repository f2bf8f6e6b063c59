/** Promises 11 to 13, what is asked of a plan, and what "Terms" says of the cost: a test for each bound. */
public final class BoundsOfQuestionsTest {
    private static final Check check = new Check("BoundsOfQuestionsTest");

    public static void main(String[] args) {
        atHeats();
        atWhats();
        atFits();
        atFrozen();
        atChangesNothing();
        costOfNoHeats();
        costBehindTheDueMinute();
        costIsASum();
        costAtMost();
        costChangesNothing();
        onUnits();
        onMinutes();
        onChecksInOrder();
        onFirstAndLastMinute();
        onNone();
        onEveryMinute();
        onChangesNothing();
        check.end();
    }

    private static void atHeats() {
        check.sentence("11: Index: no such heat");
        FewChanges none = new FewChanges();
        check.refused("there is none yet", () -> none.at(0, 0), Check.INDEX);
        FewChanges x = World.with(3, 5, 2);
        for (int what = 0; what < 5; what++) {
            int w = what;
            for (int heat : Check.outside(0, 4)) {
                check.refused("at(" + heat + ", " + w + ")", () -> x.at(heat, w), Check.INDEX);
            }
        }
        check.due("the first", () -> x.at(0, 1), 19);
        check.due("the last", () -> x.at(4, 1), 44);
        FewChanges full = World.with(3, 6, 2);
        check.due("the sixth", () -> full.at(5, 1), 45);
        check.refused("a seventh", () -> full.at(6, 1), Check.INDEX);
    }

    private static void atWhats() {
        check.sentence("11: Index: no such what (0 .. 4)");
        FewChanges x = World.some();
        for (int what : Check.outside(0, 4)) {
            check.refused("at(2, " + what + ")", () -> x.at(2, what), Check.INDEX);
            check.refused("at(3, " + what + ")", () -> x.at(3, what), Check.INDEX);
        }
        check.due("0 its unit", () -> x.at(2, 0), 1);
        check.due("1 the minute at which it begins", () -> x.at(2, 1), 20);
        check.due("2 its order", () -> x.at(2, 2), 2);
        check.due("3 whether it fits", () -> x.at(2, 3), 1);
        check.due("4 whether it is frozen", () -> x.at(2, 4), 0);
    }

    private static void atFits() {
        check.sentence("11: 3 whether it fits (1, 0)");
        FewChanges x = new FewChanges();
        x.order(0, 0);
        x.heat(0, 10, 1, 0, 20);
        x.heat(0, 10, 1, 0, 30);
        check.due("heats side by side", () -> x.at(0, 3), 1);
        check.due("heats side by side", () -> x.at(1, 3), 1);
        x.stop(0, 29, 30);
        check.due("its last minute is stopped", () -> x.at(0, 3), 0);
        check.due("the minute ahead of it is stopped", () -> x.at(1, 3), 1);
        x.go();
        x.stop(0, 30, 31);
        check.due("the minute behind it is stopped", () -> x.at(0, 3), 1);
        check.due("its first minute is stopped", () -> x.at(1, 3), 0);
        x.go();
        check.due("no stop any more", () -> x.at(1, 3), 1);
    }

    private static void atFrozen() {
        check.sentence("11: 4 whether it is frozen (1, 0)");
        FewChanges x = World.some();
        check.due("it begins a minute ahead", () -> x.at(0, 4), 1);
        check.due("it begins as both end", () -> x.at(2, 4), 0);
        x.clock(5, 16);
        check.due("a minute more", () -> x.at(2, 4), 1);
        x.clock(4, 15);
        check.due("a minute less", () -> x.at(0, 4), 0);
    }

    private static void atChangesNothing() {
        check.sentence("11: what is asked changes nothing, refused or not");
        check.refusedInVain("at(3, 0)", World::some, x -> x.at(3, 0), Check.INDEX);
        check.refusedInVain("at(0, 5)", World::some, x -> x.at(0, 5), Check.INDEX);
        for (int what = 0; what < 5; what++) {
            int w = what;
            check.inVain("at(1, " + w + ")", World::some, x -> x.at(1, w));
        }
    }

    private static void costOfNoHeats() {
        check.sentence("12: The cost (of no heats)");
        FewChanges x = new FewChanges();
        check.due("a new object", x::cost, 0);
        x.order(0, 0);
        check.due("an order due at 0", x::cost, 0);
    }

    private static void costBehindTheDueMinute() {
        check.sentence("Terms: the minutes by which they end behind their order's due minute");
        for (int due = 10; due <= 60; due += 5) {
            FewChanges x = new FewChanges();
            x.order(0, due);
            x.heat(0, 10, 1, 0, due - 10);
            check.due("ends at " + due + ", due at " + due, x::cost, 0);
            if (due > 10) {
                x.place(0, 0, due - 11);
                check.due("ends a minute ahead", x::cost, 0);
                x.place(0, 0, 0);
                check.due("ends far ahead", x::cost, 0);
            }
            if (due < 60) {
                x.place(0, 0, due - 9);
                check.due("ends a minute behind", x::cost, 1);
                x.place(0, 0, 50);
                check.due("ends at 60", x::cost, 60 - due);
            }
        }
        FewChanges first = new FewChanges();
        first.order(0, 0);
        first.heat(0, 1, 1, 0, 0);
        check.due("one minute, due at 0", first::cost, 1);
    }

    private static void costIsASum() {
        check.sentence("Terms: the sum over heats");
        FewChanges x = new FewChanges();
        x.order(0, 200);
        x.order(0, 10);
        x.order(1, 3);
        x.heat(1, 5, 1, 0, 6);
        check.due("1 behind", x::cost, 1);
        x.heat(0, 5, 1, 0, 0);
        check.due("one that is ahead takes nothing off", x::cost, 1);
        x.heat(2, 5, 2, 1, 0);
        check.due("2 behind", x::cost, 1 + 2);
        x.stop(0, 0, 60);
        x.clock(60, 60);
        check.due("fitting or not, frozen or not", x::cost, 1 + 2);
        x.divert(0, 0);
        check.due("by the order that it has now", x::cost, 2);
    }

    private static void costAtMost() {
        check.sentence("12: The cost (as large as it can be)");
        FewChanges x = new FewChanges();
        x.order(0, 0);
        for (int unit = 0; unit < 3; unit++) {
            x.heat(0, 1, 7, unit, 58);
            x.heat(0, 1, 7, unit, 59);
        }
        check.due("all at the end, due at 0", x::cost, 3 * (59 + 60));
    }

    private static void costChangesNothing() {
        check.sentence("12: what is asked changes nothing");
        check.inVain("cost()", World::some, FewChanges::cost);
    }

    private static void onUnits() {
        check.sentence("13: Index: no such unit");
        FewChanges x = World.some();
        for (int unit : Check.outside(0, 2)) {
            check.refused("on(" + unit + ", 20)", () -> x.on(unit, 20), Check.INDEX);
        }
        check.due("on(0, 20)", () -> x.on(0, 20), 0);
        check.due("on(1, 20)", () -> x.on(1, 20), 2);
        check.due("on(2, 20)", () -> x.on(2, 20), -1);
    }

    private static void onMinutes() {
        check.sentence("13: range: the minute (0 .. 59)");
        FewChanges x = new FewChanges();
        x.order(0, 0);
        x.heat(0, 1, 1, 0, 0);
        x.heat(0, 1, 1, 0, 59);
        for (int minute : Check.outside(0, 59)) {
            check.refused("on(0, " + minute + ")", () -> x.on(0, minute), Check.RANGE);
        }
        check.due("minute 0", () -> x.on(0, 0), 0);
        check.due("minute 59", () -> x.on(0, 59), 1);
    }

    private static void onChecksInOrder() {
        check.sentence("13: index ahead of range");
        FewChanges x = World.some();
        check.refused("on(3, 60)", () -> x.on(3, 60), Check.INDEX);
        check.refused("on(3, -1)", () -> x.on(3, -1), Check.INDEX);
        check.refused("on(-1, 60)", () -> x.on(-1, 60), Check.INDEX);
        check.refused("on(-1, -1)", () -> x.on(-1, -1), Check.INDEX);
    }

    private static void onFirstAndLastMinute() {
        check.sentence("13: The heat that has a minute of a unit");
        FewChanges x = new FewChanges();
        x.order(0, 0);
        x.heat(0, 10, 7, 1, 30);
        x.heat(0, 10, 7, 1, 20);
        check.due("ahead of both", () -> x.on(1, 19), -1);
        check.due("the first minute of heat 1", () -> x.on(1, 20), 1);
        check.due("the last minute of heat 1", () -> x.on(1, 29), 1);
        check.due("the first minute of heat 0", () -> x.on(1, 30), 0);
        check.due("the last minute of heat 0", () -> x.on(1, 39), 0);
        check.due("behind both", () -> x.on(1, 40), -1);
        x.stop(1, 0, 60);
        check.due("in a stop it has its minutes too", () -> x.on(1, 39), 0);
        check.due("a stop is no heat", () -> x.on(1, 40), -1);
    }

    private static void onNone() {
        check.sentence("13: -1: none");
        FewChanges x = new FewChanges();
        check.due("no heats", () -> x.on(0, 0), -1);
        x.order(0, 0);
        x.heat(0, 20, 7, 1, 0);
        check.due("another unit", () -> x.on(0, 0), -1);
        check.due("another unit", () -> x.on(2, 19), -1);
        x.place(0, 2, 40);
        check.due("where it was", () -> x.on(1, 0), -1);
        check.due("where it is", () -> x.on(2, 59), 0);
    }

    /** Two heats never have one minute, as each place must fit; so the lowest one such is the only one. */
    private static void onEveryMinute() {
        check.sentence("13: the lowest one such");
        FewChanges x = new FewChanges();
        x.order(0, 0);
        for (int heat = 0; heat < 6; heat++) {
            x.heat(0, 20, 7, 2 - heat / 2, heat % 2 == 0 ? 40 : 0);
        }
        for (int unit = 0; unit < 3; unit++) {
            for (int minute = 0; minute < 60; minute++) {
                int u = unit;
                int m = minute;
                int due = minute >= 40 ? 2 * (2 - unit) : minute < 20 ? 2 * (2 - unit) + 1 : -1;
                check.due("on(" + u + ", " + m + ")", () -> x.on(u, m), due);
            }
        }
    }

    private static void onChangesNothing() {
        check.sentence("13: what is asked changes nothing, refused or not");
        check.refusedInVain("on(3, 0)", World::some, x -> x.on(3, 0), Check.INDEX);
        check.refusedInVain("on(0, 60)", World::some, x -> x.on(0, 60), Check.RANGE);
        check.inVain("on(0, 20)", World::some, x -> x.on(0, 20));
    }
}
