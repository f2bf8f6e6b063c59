/** Replanning heats on units with the fewest changes; ../shared/DOC.md numbers the promises that it keeps. */
public final class FewChanges {
    private static final int UNITS = 3;
    private static final int MINUTES = 60;
    private static final int MOST_ORDERS = 8;
    private static final int MOST_GRADE = 9;
    private static final int MOST_DUE = 200;
    private static final int MOST_HEATS = 6;
    private static final int MOST_LENGTH = 20;
    private static final int ALL_UNITS = 7;
    private static final int MOST_STOPS = 10;
    private static final int COPIES = 4;
    private static final int MOST_NODES = 100000;
    /** Above the cost of any plan, so that a round's first plan is always better. */
    private static final int NO_PLAN = 1000000;

    private final Shop shop;
    private final Plan plan;
    private final Plan before;
    private boolean undoable;
    private final Plan[] copies;
    private final boolean[] kept;
    private final Search search;

    public FewChanges() {
        Shop newShop = new Shop();
        Plan newPlan = new Plan();
        shop = newShop;
        plan = newPlan;
        before = new Plan();
        copies = new Plan[COPIES];
        for (int copy = 0; copy < COPIES; copy++) {
            copies[copy] = new Plan();
        }
        kept = new boolean[COPIES];
        search = new Search(newShop, newPlan);
    }

    public int order(int grade, int due) throws IllegalStateException, IllegalArgumentException {
        if (shop.orders >= MOST_ORDERS) {
            throw new IllegalStateException("there are 8 orders");
        }
        if (!isWithin(grade, 0, MOST_GRADE) || !isWithin(due, 0, MOST_DUE)) {
            throw new IllegalArgumentException("grade or due minute");
        }
        return shop.addOrder(grade, due);
    }

    public int heat(int order, int length, int units, int unit, int minute)
            throws IndexOutOfBoundsException, IllegalStateException, IllegalArgumentException,
            UnsupportedOperationException {
        if (!isOrder(order) || !isUnit(unit)) {
            throw new IndexOutOfBoundsException("no such order or unit");
        }
        if (shop.heats >= MOST_HEATS) {
            throw new IllegalStateException("there are 6 heats");
        }
        if (!isWithin(length, 1, MOST_LENGTH) || !isWithin(units, 1, ALL_UNITS) || !isMinute(minute)) {
            throw new IllegalArgumentException("length, units or minute");
        }
        if (!mayTake(units, unit) || !shop.hasRoom(plan, shop.heats, unit, minute, length)) {
            throw new UnsupportedOperationException("the heat does not fit");
        }
        int heat = shop.addHeat(length, units);
        plan.put(heat, unit, minute);
        plan.order[heat] = order;
        forgetCopiesAndUndo();
        return heat;
    }

    public int stop(int unit, int from, int to)
            throws IndexOutOfBoundsException, IllegalStateException, IllegalArgumentException {
        if (!isUnit(unit)) {
            throw new IndexOutOfBoundsException("no such unit");
        }
        if (shop.stops >= MOST_STOPS) {
            throw new IllegalStateException("there are 10 stops");
        }
        if (!isWithin(from, 0, MINUTES) || !isWithin(to, 0, MINUTES) || to <= from) {
            throw new IllegalArgumentException("minutes of the stop");
        }
        return shop.addStop(unit, from, to);
    }

    public void go() {
        shop.forgetStops();
    }

    public void clock(int now, int freeze) throws IllegalArgumentException {
        if (!isWithin(now, 0, MINUTES) || !isWithin(freeze, 0, MINUTES)) {
            throw new IllegalArgumentException("now or freeze");
        }
        shop.now = now;
        shop.freeze = freeze;
    }

    public void place(int heat, int unit, int minute)
            throws IndexOutOfBoundsException, IllegalStateException, IllegalArgumentException,
            UnsupportedOperationException {
        if (!isHeat(heat) || !isUnit(unit)) {
            throw new IndexOutOfBoundsException("no such heat or unit");
        }
        if (shop.isFrozen(plan, heat)) {
            throw new IllegalStateException("the heat is frozen");
        }
        if (!isMinute(minute)) {
            throw new IllegalArgumentException("minute");
        }
        if (!shop.fits(plan, heat, unit, minute)) {
            throw new UnsupportedOperationException("the heat does not fit there");
        }
        rememberForUndo();
        plan.put(heat, unit, minute);
    }

    public void divert(int heat, int order) throws IndexOutOfBoundsException, UnsupportedOperationException {
        if (!isHeat(heat) || !isOrder(order)) {
            throw new IndexOutOfBoundsException("no such heat or order");
        }
        int own = plan.order[heat];
        if (own == order || shop.grade[own] != shop.grade[order]) {
            throw new UnsupportedOperationException("another grade, or its own order");
        }
        rememberForUndo();
        plan.order[heat] = order;
    }

    public int run(int nodes) throws IllegalArgumentException {
        if (!isWithin(nodes, 0, MOST_NODES)) {
            throw new IllegalArgumentException("nodes");
        }
        search.replan(nodes);
        if (!search.hasFound()) {
            return -1;
        }
        // Round 0 changes nothing, so it must not push away what can be undone.
        if (search.round > 0) {
            rememberForUndo();
            plan.takeFrom(search.best);
        }
        return search.round;
    }

    public int told(int what) throws IndexOutOfBoundsException, IllegalStateException {
        if (!isWithin(what, 0, 3)) {
            throw new IndexOutOfBoundsException("no such what");
        }
        if (!search.wasRun) {
            throw new IllegalStateException("there was no run");
        }
        switch (what) {
            case 0:
                return search.spent ? 1 : 0;
            case 1:
                return search.nodes;
            case 2:
                return search.round;
            default:
                return search.list;
        }
    }

    public int at(int heat, int what) throws IndexOutOfBoundsException {
        if (!isHeat(heat) || !isWithin(what, 0, 4)) {
            throw new IndexOutOfBoundsException("no such heat or what");
        }
        switch (what) {
            case 0:
                return plan.unit[heat];
            case 1:
                return plan.minute[heat];
            case 2:
                return plan.order[heat];
            case 3:
                return shop.fits(plan, heat, plan.unit[heat], plan.minute[heat]) ? 1 : 0;
            default:
                return shop.isFrozen(plan, heat) ? 1 : 0;
        }
    }

    public int cost() {
        int sum = 0;
        for (int heat = 0; heat < shop.heats; heat++) {
            sum += shop.lateness(heat, plan.order[heat], plan.minute[heat]);
        }
        return sum;
    }

    public int on(int unit, int minute) throws IndexOutOfBoundsException, IllegalArgumentException {
        if (!isUnit(unit)) {
            throw new IndexOutOfBoundsException("no such unit");
        }
        if (!isMinute(minute)) {
            throw new IllegalArgumentException("minute");
        }
        for (int heat = 0; heat < shop.heats; heat++) {
            int begin = plan.minute[heat];
            if (plan.unit[heat] == unit && begin <= minute && minute < begin + shop.length[heat]) {
                return heat;
            }
        }
        return -1;
    }

    public void keep(int copy) throws IndexOutOfBoundsException {
        if (!isCopy(copy)) {
            throw new IndexOutOfBoundsException("no such copy");
        }
        copies[copy].takeFrom(plan);
        kept[copy] = true;
    }

    public int compare(int copy) throws IndexOutOfBoundsException, IllegalStateException {
        if (!isCopy(copy)) {
            throw new IndexOutOfBoundsException("no such copy");
        }
        if (!kept[copy]) {
            throw new IllegalStateException("the copy was not kept");
        }
        int others = 0;
        for (int heat = 0; heat < shop.heats; heat++) {
            if (!plan.isSameIn(copies[copy], heat)) {
                others++;
            }
        }
        return others;
    }

    public void use(int copy) throws IndexOutOfBoundsException, IllegalStateException {
        if (!isCopy(copy)) {
            throw new IndexOutOfBoundsException("no such copy");
        }
        if (!kept[copy]) {
            throw new IllegalStateException("the copy was not kept");
        }
        rememberForUndo();
        plan.takeFrom(copies[copy]);
    }

    public void undo() throws IllegalStateException {
        if (!undoable) {
            throw new IllegalStateException("there is nothing to undo");
        }
        plan.takeFrom(before);
        undoable = false;
    }

    private void rememberForUndo() {
        before.takeFrom(plan);
        undoable = true;
    }

    /** Plans from ahead of a new heat have no place for it, so none of them may come back. */
    private void forgetCopiesAndUndo() {
        undoable = false;
        for (int copy = 0; copy < COPIES; copy++) {
            kept[copy] = false;
        }
    }

    private boolean isOrder(int order) {
        return isWithin(order, 0, shop.orders - 1);
    }

    private boolean isHeat(int heat) {
        return isWithin(heat, 0, shop.heats - 1);
    }

    private static boolean isUnit(int unit) {
        return isWithin(unit, 0, UNITS - 1);
    }

    private static boolean isMinute(int minute) {
        return isWithin(minute, 0, MINUTES - 1);
    }

    private static boolean isCopy(int copy) {
        return isWithin(copy, 0, COPIES - 1);
    }

    private static boolean isWithin(int number, int least, int most) {
        return number >= least && number <= most;
    }

    private static boolean mayTake(int units, int unit) {
        return ((units >> unit) & 1) == 1;
    }

    /** The minutes from one on, as bits; 60 minutes are within a long's 64 bits. */
    private static long minutesAsBits(int from, int length) {
        return ((1L << length) - 1L) << from;
    }

    /** Where the heats stand and which orders they are for. */
    private static final class Plan {
        final int[] unit;
        final int[] minute;
        final int[] order;

        Plan() {
            unit = new int[MOST_HEATS];
            minute = new int[MOST_HEATS];
            order = new int[MOST_HEATS];
        }

        void put(int heat, int newUnit, int newMinute) {
            unit[heat] = newUnit;
            minute[heat] = newMinute;
        }

        void takeFrom(Plan other) {
            for (int heat = 0; heat < MOST_HEATS; heat++) {
                unit[heat] = other.unit[heat];
                minute[heat] = other.minute[heat];
                order[heat] = other.order[heat];
            }
        }

        boolean isAt(int heat, int someUnit, int someMinute) {
            return unit[heat] == someUnit && minute[heat] == someMinute;
        }

        boolean isSameIn(Plan other, int heat) {
            return isAt(heat, other.unit[heat], other.minute[heat]) && order[heat] == other.order[heat];
        }
    }

    /** What every plan is judged by: orders, heats, stops and the clock. */
    private static final class Shop {
        final int[] grade;
        final int[] due;
        int orders;
        final int[] length;
        final int[] units;
        int heats;
        /** Stops are forgotten all at once, so their minutes together and their number are enough. */
        final long[] stopped;
        int stops;
        int now;
        int freeze;

        Shop() {
            grade = new int[MOST_ORDERS];
            due = new int[MOST_ORDERS];
            length = new int[MOST_HEATS];
            units = new int[MOST_HEATS];
            stopped = new long[UNITS];
        }

        int addOrder(int newGrade, int newDue) {
            grade[orders] = newGrade;
            due[orders] = newDue;
            orders++;
            return orders - 1;
        }

        int addHeat(int newLength, int newUnits) {
            length[heats] = newLength;
            units[heats] = newUnits;
            heats++;
            return heats - 1;
        }

        int addStop(int unit, int from, int to) {
            stopped[unit] |= minutesAsBits(from, to - from);
            stops++;
            return stops;
        }

        void forgetStops() {
            for (int unit = 0; unit < UNITS; unit++) {
                stopped[unit] = 0L;
            }
            stops = 0;
        }

        boolean isFrozen(Plan plan, int heat) {
            return plan.minute[heat] < now + freeze;
        }

        int lateness(int heat, int order, int minute) {
            int behind = minute + length[heat] - due[order];
            return behind > 0 ? behind : 0;
        }

        boolean fits(Plan plan, int heat, int unit, int minute) {
            return mayTake(units[heat], unit) && hasRoom(plan, heat, unit, minute, length[heat]);
        }

        /** Whether a unit has minutes free of stops and of all heats but one. */
        boolean hasRoom(Plan plan, int but, int unit, int minute, int wanted) {
            if (minute + wanted > MINUTES) {
                return false;
            }
            long taken = stopped[unit];
            for (int heat = 0; heat < heats; heat++) {
                if (heat != but && plan.unit[heat] == unit) {
                    taken |= minutesAsBits(plan.minute[heat], length[heat]);
                }
            }
            return (taken & minutesAsBits(minute, wanted)) == 0L;
        }
    }

    /** Replanning by rounds, and what the latest one has to tell. */
    private static final class Search {
        private final Shop shop;
        private final Plan old;
        private final Plan trial;
        final Plan best;
        private int bestCost;
        private final long[] taken;
        private int set;
        private int nodesAllowed;
        boolean wasRun;
        boolean spent;
        int nodes;
        int round;
        int list;

        Search(Shop someShop, Plan plan) {
            shop = someShop;
            old = plan;
            trial = new Plan();
            best = new Plan();
            taken = new long[UNITS];
        }

        boolean hasFound() {
            return bestCost < NO_PLAN;
        }

        void replan(int allowed) {
            wasRun = true;
            nodesAllowed = allowed;
            nodes = 0;
            spent = false;
            bestCost = NO_PLAN;
            list = 0;
            round = 0;
            trial.takeFrom(old);
            int loose = looseHeats();
            int rounds = Integer.bitCount(loose);
            searchRound(loose);
            while (round < rounds && !spent && !hasFound()) {
                round++;
                searchRound(loose);
            }
        }

        private int looseHeats() {
            int bits = 0;
            for (int heat = 0; heat < shop.heats; heat++) {
                if (!shop.isFrozen(old, heat)) {
                    bits |= 1 << heat;
                }
            }
            return bits;
        }

        private void searchRound(int loose) {
            for (int bits = 0; bits <= loose && !spent; bits++) {
                if ((bits & ~loose) == 0 && Integer.bitCount(bits) == round) {
                    searchSet(bits);
                }
            }
        }

        private void searchSet(int bits) {
            set = bits;
            if (!canOthersStay()) {
                return;
            }
            int stayCost = costOfOthers();
            if (stayCost < bestCost) {
                placeFrom(0, stayCost);
            }
        }

        private boolean isInSet(int heat) {
            return ((set >> heat) & 1) == 1;
        }

        /** Marks the minutes of stops and of the heats that stay; false when one of these does not fit. */
        private boolean canOthersStay() {
            for (int unit = 0; unit < UNITS; unit++) {
                taken[unit] = shop.stopped[unit];
            }
            for (int heat = 0; heat < shop.heats; heat++) {
                if (!isInSet(heat)) {
                    int unit = old.unit[heat];
                    long bits = minutesAsBits(old.minute[heat], shop.length[heat]);
                    if ((taken[unit] & bits) != 0L) {
                        return false;
                    }
                    taken[unit] |= bits;
                    trial.put(heat, unit, old.minute[heat]);
                }
            }
            return true;
        }

        private int costOfOthers() {
            int sum = 0;
            for (int heat = 0; heat < shop.heats; heat++) {
                if (!isInSet(heat)) {
                    sum += shop.lateness(heat, old.order[heat], old.minute[heat]);
                }
            }
            return sum;
        }

        /** Gives places to the heats of the set from this number on; the number is the depth, at most 6. */
        private void placeFrom(int heat, int cost) {
            if (heat >= shop.heats) {
                bestCost = cost;
                best.takeFrom(trial);
                list = set;
                return;
            }
            if (!isInSet(heat)) {
                placeFrom(heat + 1, cost);
                return;
            }
            for (int unit = 0; unit < UNITS && !spent; unit++) {
                if (mayTake(shop.units[heat], unit)) {
                    tryUnit(heat, unit, cost);
                }
            }
        }

        private void tryUnit(int heat, int unit, int cost) {
            int length = shop.length[heat];
            for (int minute = 0; minute + length <= MINUTES && !spent; minute++) {
                long bits = minutesAsBits(minute, length);
                if ((taken[unit] & bits) == 0L && !old.isAt(heat, unit, minute)) {
                    tryPlace(heat, unit, minute, cost);
                }
            }
        }

        private void tryPlace(int heat, int unit, int minute, int cost) {
            if (nodes >= nodesAllowed) {
                spent = true;
                return;
            }
            nodes++;
            int sum = cost + shop.lateness(heat, old.order[heat], minute);
            if (sum >= bestCost) {
                return;
            }
            long bits = minutesAsBits(minute, shop.length[heat]);
            taken[unit] |= bits;
            trial.put(heat, unit, minute);
            placeFrom(heat + 1, sum);
            taken[unit] &= ~bits;
        }
    }
}
