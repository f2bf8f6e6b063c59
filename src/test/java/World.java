/** Objects in which much has happened, so that hardly any change of theirs stays unseen. */
final class World {
    private World() {
    }

    /** Three orders, three heats, two stops. */
    static FewChanges some() {
        return with(3, 3, 2);
    }

    /**
     * So many orders (from 3), heats (from 3) and stops (from 2). Heats 0 and 1 are of orders 1 and 0, of one grade;
     * heat 2 is of order 2, one minute long, and may be anywhere. All heats that begin ahead of minute 20 are frozen:
     * 0 and 1, but not 2. Copies 0 and 2 are kept, and a run that moved heat 1 can be undone.
     */
    static FewChanges with(int orders, int heats, int stops) {
        FewChanges x = new FewChanges();
        x.order(3, 20);
        x.order(3, 5);
        x.order(4, 0);
        for (int order = 3; order < orders; order++) {
            x.order(order, 10 * order);
        }
        x.heat(0, 2, 7, 0, 19);
        x.heat(0, 10, 3, 0, 21);
        x.heat(2, 1, 7, 1, 20);
        for (int heat = 3; heat < heats; heat++) {
            x.heat(0, 1, 7, 2, 40 + heat);
        }
        x.keep(0);
        x.divert(0, 1);
        x.keep(2);
        x.stop(0, 25, 27);
        x.run(100000);
        x.stop(2, 30, 40);
        for (int stop = 2; stop < stops; stop++) {
            x.stop(1, 50 + stop / 3, 53 + stop / 3);
        }
        x.clock(5, 15);
        return x;
    }
}
