import java.util.ArrayList;
import java.util.List;
import java.util.Random;

/**
 * "What it is": replanning with the fewest changes, and the least lateness among as few. Made-up plans are replanned,
 * and compared with the best one of ALL plans, found without rounds, sets or nodes.
 */
public final class FewestChangesTest {
    private static final Check check = new Check("FewestChangesTest");
    private static final int WORLDS = 2000;

    private final Random random;
    private final FewChanges x = new FewChanges();
    private final List<int[]> stops = new ArrayList<>();
    private final List<Integer> dues = new ArrayList<>();
    private final List<Integer> lengths = new ArrayList<>();
    private final List<Integer> units = new ArrayList<>();
    private final List<List<int[]>> choices = new ArrayList<>();
    private final List<int[]> old = new ArrayList<>();

    /** Of the best plan so far: how many changed, its cost, its changed heats as bits; none as long as it is null. */
    private int[] best = null;
    private List<int[]> bestPlaces = null;

    private FewestChangesTest(long seed) {
        random = new Random(seed);
    }

    public static void main(String[] args) {
        int[] seen = new int[5];
        for (int world = 0; world < WORLDS; world++) {
            int changed = new FewestChangesTest(world).replanAndCompare("world " + world);
            seen[changed + 1]++;
        }
        // A test of plans that all end alike would say little.
        check.same("worlds of nothing found, none, one, two and three changed, each at least 10",
                Boolean.toString(seen[0] >= 10 && seen[1] >= 10 && seen[2] >= 10 && seen[3] >= 10 && seen[4] >= 10),
                "true");
        check.end();
    }

    private int from(int least, int most) {
        return least + random.nextInt(most - least + 1);
    }

    private int replanAndCompare(String world) {
        makeHeats();
        makeStops();
        x.clock(random.nextInt(3) == 0 ? from(0, 30) : 0, random.nextInt(3) == 0 ? from(0, 10) : 0);
        for (int heat = 0; heat < lengths.size(); heat++) {
            old.add(new int[] {x.at(heat, 0), x.at(heat, 1)});
        }
        findChoices();
        tryPlaces(0, new ArrayList<>(), 0, 0, 0);
        int changed = x.run(100000);
        check.due(world + ": not spent", () -> x.told(0), 0);
        check.same(world + ": changed", Integer.toString(changed), Integer.toString(best == null ? -1 : best[0]));
        check.due(world + ": the list", () -> x.told(3), best == null ? 0 : best[2]);
        if (best != null) {
            check.due(world + ": cost", x::cost, best[1]);
        }
        List<int[]> places = best == null ? old : bestPlaces;
        for (int i = 0; i < places.size(); i++) {
            int heat = i;
            check.due(world + ": unit of " + heat, () -> x.at(heat, 0), places.get(heat)[0]);
            check.due(world + ": minute of " + heat, () -> x.at(heat, 1), places.get(heat)[1]);
        }
        return changed;
    }

    private void makeHeats() {
        int heats = from(1, 3);
        for (int tries = 0; lengths.size() < heats && tries < 40; tries++) {
            int length = from(8, 20);
            int mask = random.nextInt(2) == 0 ? from(1, 7) : 1;
            int due = from(0, 70);
            int order = lengths.size();
            if (dues.size() == order) {
                dues.add(due);
                x.order(0, due);
            }
            String answer = Check.answerOf(() -> x.heat(order, length, mask, from(0, 2), from(0, 59)));
            if (answer.equals(Integer.toString(order))) {
                lengths.add(length);
                units.add(mask);
            }
        }
    }

    private void makeStops() {
        int number = from(0, 10);
        for (int stop = 0; stop < number; stop++) {
            int begin = from(0, 59);
            int[] made = {from(0, 2), begin, Math.min(60, begin + from(1, 12))};
            stops.add(made);
            x.stop(made[0], made[1], made[2]);
        }
    }

    private void findChoices() {
        for (int heat = 0; heat < lengths.size(); heat++) {
            List<int[]> places = new ArrayList<>();
            boolean frozen = x.at(heat, 4) == 1;
            for (int place = 0; place < 180; place++) {
                int[] at = {place / 60, place % 60};
                if (isFree(heat, at) && (!frozen || isOld(heat, at))) {
                    places.add(at);
                }
            }
            choices.add(places);
        }
    }

    private boolean isOld(int heat, int[] at) {
        return at[0] == old.get(heat)[0] && at[1] == old.get(heat)[1];
    }

    private boolean isFree(int heat, int[] at) {
        int end = at[1] + lengths.get(heat);
        if ((units.get(heat) >> at[0] & 1) == 0 || end > 60) {
            return false;
        }
        for (int[] stop : stops) {
            if (stop[0] == at[0] && stop[1] < end && at[1] < stop[2]) {
                return false;
            }
        }
        return true;
    }

    private boolean isClear(int heat, int[] at, List<int[]> places) {
        for (int other = 0; other < places.size(); other++) {
            int[] there = places.get(other);
            if (there[0] == at[0] && there[1] < at[1] + lengths.get(heat) && at[1] < there[1] + lengths.get(other)) {
                return false;
            }
        }
        return true;
    }

    private void tryPlaces(int heat, List<int[]> places, int changed, int cost, int list) {
        if (heat == lengths.size()) {
            if (isBetter(changed, cost, list)) {
                best = new int[] {changed, cost, list};
                bestPlaces = new ArrayList<>(places);
            }
            return;
        }
        for (int[] at : choices.get(heat)) {
            if (isClear(heat, at, places)) {
                int moved = isOld(heat, at) ? 0 : 1;
                places.add(at);
                tryPlaces(heat + 1, places, changed + moved,
                        cost + Math.max(0, at[1] + lengths.get(heat) - dues.get(heat)), list | moved << heat);
                places.remove(heat);
            }
        }
    }

    /** Fewer changes, then less lateness, then the lower set; of equals the first one stays. */
    private boolean isBetter(int changed, int cost, int list) {
        if (best == null || changed != best[0]) {
            return best == null || changed < best[0];
        }
        return cost != best[1] ? cost < best[1] : list < best[2];
    }
}
