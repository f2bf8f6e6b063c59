import java.util.ArrayList;
import java.util.List;

/** The document's words as plainly as they can be written, minute by minute and without any saving of work. */
final class PlainModel {
    /** A heat of a plan; one with unit -1 has no place. */
    private static final class Heat {
        int order;
        int length;
        int units;
        int unit;
        int minute;

        Heat copy() {
            Heat other = new Heat();
            other.order = order;
            other.length = length;
            other.units = units;
            other.unit = unit;
            other.minute = minute;
            return other;
        }
    }

    private final List<int[]> orders = new ArrayList<>();
    private final List<int[]> stops = new ArrayList<>();
    private final List<List<Heat>> copies = new ArrayList<>();
    private List<Heat> plan = new ArrayList<>();
    private List<Heat> before = null;
    private int now = 0;
    private int freeze = 0;
    private int[] tale = null;

    private List<Heat> roundsBest;
    private int roundsList;
    private int left;
    private boolean spent;

    PlainModel() {
        for (int copy = 0; copy < 4; copy++) {
            copies.add(null);
        }
    }

    private static void index(boolean right) {
        if (!right) {
            throw new IndexOutOfBoundsException();
        }
    }

    private static void turn(boolean right) {
        if (!right) {
            throw new IllegalStateException();
        }
    }

    private static void range(boolean right) {
        if (!right) {
            throw new IllegalArgumentException();
        }
    }

    private static void meaning(boolean right) {
        if (!right) {
            throw new UnsupportedOperationException();
        }
    }

    private static List<Heat> copyOf(List<Heat> heats) {
        List<Heat> others = new ArrayList<>();
        for (Heat heat : heats) {
            others.add(heat.copy());
        }
        return others;
    }

    private static boolean hasMinute(Heat heat, int unit, int minute) {
        return heat.unit == unit && minute >= heat.minute && minute < heat.minute + heat.length;
    }

    private boolean fits(List<Heat> heats, Heat heat, int unit, int minute) {
        if ((heat.units & (1 << unit)) == 0 || minute + heat.length > 60) {
            return false;
        }
        for (int m = minute; m < minute + heat.length; m++) {
            for (int[] stop : stops) {
                if (stop[0] == unit && m >= stop[1] && m < stop[2]) {
                    return false;
                }
            }
            for (Heat other : heats) {
                if (other != heat && hasMinute(other, unit, m)) {
                    return false;
                }
            }
        }
        return true;
    }

    private int costOf(List<Heat> heats) {
        int sum = 0;
        for (Heat heat : heats) {
            int behind = heat.minute + heat.length - orders.get(heat.order)[1];
            if (heat.unit >= 0 && behind > 0) {
                sum += behind;
            }
        }
        return sum;
    }

    private boolean frozen(Heat heat) {
        return heat.minute < now + freeze;
    }

    int order(int grade, int due) {
        turn(orders.size() < 8);
        range(grade >= 0 && grade <= 9 && due >= 0 && due <= 200);
        orders.add(new int[] {grade, due});
        return orders.size() - 1;
    }

    int heat(int order, int length, int units, int unit, int minute) {
        index(order >= 0 && order < orders.size() && unit >= 0 && unit <= 2);
        turn(plan.size() < 6);
        range(length >= 1 && length <= 20 && units >= 1 && units <= 7 && minute >= 0 && minute <= 59);
        Heat heat = new Heat();
        heat.order = order;
        heat.length = length;
        heat.units = units;
        heat.unit = unit;
        heat.minute = minute;
        meaning(fits(plan, heat, unit, minute));
        plan.add(heat);
        before = null;
        for (int copy = 0; copy < 4; copy++) {
            copies.set(copy, null);
        }
        return plan.size() - 1;
    }

    int stop(int unit, int from, int to) {
        index(unit >= 0 && unit <= 2);
        turn(stops.size() < 10);
        range(from >= 0 && from <= 60 && to >= 0 && to <= 60 && to > from);
        stops.add(new int[] {unit, from, to});
        return stops.size();
    }

    void go() {
        stops.clear();
    }

    void clock(int newNow, int newFreeze) {
        range(newNow >= 0 && newNow <= 60 && newFreeze >= 0 && newFreeze <= 60);
        now = newNow;
        freeze = newFreeze;
    }

    void place(int heat, int unit, int minute) {
        index(heat >= 0 && heat < plan.size() && unit >= 0 && unit <= 2);
        turn(!frozen(plan.get(heat)));
        range(minute >= 0 && minute <= 59);
        meaning(fits(plan, plan.get(heat), unit, minute));
        before = copyOf(plan);
        plan.get(heat).unit = unit;
        plan.get(heat).minute = minute;
    }

    void divert(int heat, int order) {
        index(heat >= 0 && heat < plan.size() && order >= 0 && order < orders.size());
        int own = plan.get(heat).order;
        meaning(own != order && orders.get(own)[0] == orders.get(order)[0]);
        before = copyOf(plan);
        plan.get(heat).order = order;
    }

    int run(int nodes) {
        range(nodes >= 0 && nodes <= 100000);
        left = nodes;
        spent = false;
        int loose = 0;
        for (Heat heat : plan) {
            loose += frozen(heat) ? 0 : 1;
        }
        for (int k = 0; k <= loose; k++) {
            roundsBest = null;
            for (int set = 0; set < 64 && !spent; set++) {
                if (Integer.bitCount(set) == k && mayChange(set)) {
                    trySet(set);
                }
            }
            boolean found = roundsBest != null;
            tale = new int[] {spent ? 1 : 0, nodes - left, k, found ? roundsList : 0};
            if (found && k > 0) {
                before = copyOf(plan);
                plan = roundsBest;
            }
            if (found) {
                return k;
            }
            if (spent) {
                return -1;
            }
        }
        return -1;
    }

    private boolean mayChange(int set) {
        for (int heat = 0; heat < 6; heat++) {
            if ((set & (1 << heat)) != 0 && (heat >= plan.size() || frozen(plan.get(heat)))) {
                return false;
            }
        }
        return true;
    }

    private void trySet(int set) {
        List<Heat> trial = copyOf(plan);
        List<Integer> changing = new ArrayList<>();
        for (int heat = 0; heat < trial.size(); heat++) {
            if ((set & (1 << heat)) != 0) {
                trial.get(heat).unit = -1;
                changing.add(heat);
            }
        }
        for (Heat heat : trial) {
            if (heat.unit >= 0 && !fits(trial, heat, heat.unit, heat.minute)) {
                return;
            }
        }
        if (isBetter(trial)) {
            give(trial, changing, 0, set);
        }
    }

    private boolean isBetter(List<Heat> trial) {
        return roundsBest == null || costOf(trial) < costOf(roundsBest);
    }

    private void give(List<Heat> trial, List<Integer> changing, int next, int set) {
        if (next == changing.size()) {
            roundsBest = copyOf(trial);
            roundsList = set;
            return;
        }
        Heat old = plan.get(changing.get(next));
        Heat heat = trial.get(changing.get(next));
        for (int place = 0; place < 180; place++) {
            int unit = place / 60;
            int minute = place % 60;
            if ((unit != old.unit || minute != old.minute) && fits(trial, heat, unit, minute)) {
                if (left == 0) {
                    spent = true;
                    return;
                }
                left--;
                heat.unit = unit;
                heat.minute = minute;
                if (isBetter(trial)) {
                    give(trial, changing, next + 1, set);
                }
                heat.unit = -1;
                if (spent) {
                    return;
                }
            }
        }
    }

    int told(int what) {
        index(what >= 0 && what <= 3);
        turn(tale != null);
        return tale[what];
    }

    int at(int heat, int what) {
        index(heat >= 0 && heat < plan.size() && what >= 0 && what <= 4);
        Heat it = plan.get(heat);
        int fit = fits(plan, it, it.unit, it.minute) ? 1 : 0;
        return new int[] {it.unit, it.minute, it.order, fit, frozen(it) ? 1 : 0}[what];
    }

    int cost() {
        return costOf(plan);
    }

    int on(int unit, int minute) {
        index(unit >= 0 && unit <= 2);
        range(minute >= 0 && minute <= 59);
        for (int heat = 0; heat < plan.size(); heat++) {
            if (hasMinute(plan.get(heat), unit, minute)) {
                return heat;
            }
        }
        return -1;
    }

    void keep(int copy) {
        index(copy >= 0 && copy <= 3);
        copies.set(copy, copyOf(plan));
    }

    int compare(int copy) {
        index(copy >= 0 && copy <= 3);
        turn(copies.get(copy) != null);
        int others = 0;
        for (int heat = 0; heat < plan.size(); heat++) {
            Heat here = plan.get(heat);
            Heat there = copies.get(copy).get(heat);
            if (here.unit != there.unit || here.minute != there.minute || here.order != there.order) {
                others++;
            }
        }
        return others;
    }

    void use(int copy) {
        index(copy >= 0 && copy <= 3);
        turn(copies.get(copy) != null);
        before = plan;
        plan = copyOf(copies.get(copy));
    }

    void undo() {
        turn(before != null);
        plan = before;
        before = null;
    }
}
