import java.util.function.IntSupplier;

/** All that can be seen of an object, as a text. A look spends at most 420 of the 512 calls that an object has. */
final class Look {
    private final FewChanges x;
    private final StringBuilder seen = new StringBuilder();

    private Look(FewChanges x) {
        this.x = x;
    }

    static String atPlan(FewChanges x) {
        Look look = new Look(x);
        look.plan();
        return look.seen.toString();
    }

    static String atTold(FewChanges x) {
        Look look = new Look(x);
        for (int what = 0; what < 4; what++) {
            int w = what;
            look.add(() -> x.told(w));
        }
        return look.seen.toString();
    }

    /** What is in the copies, and what can be undone; the plan is another one then. */
    static String atCopiesAndUndo(FewChanges x) {
        Look look = new Look(x);
        for (int copy = 0; copy < 4; copy++) {
            int c = copy;
            look.add(() -> x.compare(c));
        }
        look.add(x::undo);
        look.plan();
        look.add(x::undo);
        for (int copy = 0; copy < 4; copy++) {
            int c = copy;
            look.add(() -> x.use(c));
            look.plan();
        }
        return look.seen.toString();
    }

    /** Lengths, orders, stopped minutes, and how many there are of each; much is changed then. */
    static String atShop(FewChanges x) {
        Look look = new Look(x);
        look.minutes((unit, minute) -> x.on(unit, minute));
        x.clock(0, 0);
        for (int order = 0; order < 8; order++) {
            int o = order;
            look.add(() -> x.divert(0, o));
            look.add(x::cost);
        }
        // Heat 2 of a World is one minute long and may be anywhere.
        look.minutes((unit, minute) -> {
            x.place(2, unit, minute);
            return 0;
        });
        look.add(() -> x.stop(0, 0, 1));
        look.add(() -> x.order(0, 0));
        x.go();
        look.add(() -> x.heat(0, 1, 7, 2, 58));
        return look.seen.toString();
    }

    private interface OfMinute {
        int at(int unit, int minute);
    }

    private void minutes(OfMinute call) {
        for (int unit = 0; unit < 3; unit++) {
            for (int minute = 0; minute < 60; minute++) {
                int u = unit;
                int m = minute;
                add(() -> call.at(u, m));
            }
        }
    }

    private void plan() {
        for (int heat = 0; heat < 6; heat++) {
            for (int what = 0; what < 5; what++) {
                int h = heat;
                int w = what;
                add(() -> x.at(h, w));
            }
        }
        add(x::cost);
    }

    private void add(IntSupplier call) {
        seen.append(Check.answerOf(call)).append(' ');
    }

    private void add(Runnable call) {
        seen.append(Check.answerOf(call)).append(' ');
    }
}
