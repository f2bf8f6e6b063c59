import java.util.Random;

/** Runs of calls made up from fixed seeds: every answer is the plain model's. Covers promises 1 to 17. */
public final class ModelTest {
    private static final int RUNS = 3000;
    /** With told() behind each run() and the look at the end an object stays under the document's 512 calls. */
    private static final int CALLS = 240;
    private static final Check check = new Check("ModelTest");

    private final Random random;
    private final String name;
    private final FewChanges x = new FewChanges();
    private final PlainModel model = new PlainModel();
    /** Some runs make few stops and long heats, others the other way round, so that all rounds are seen. */
    private final int longest;
    private final int longestStop;

    private ModelTest(int seed) {
        random = new Random(seed);
        name = "seed " + seed + ", call ";
        longest = 1 + random.nextInt(20);
        longestStop = 1 + random.nextInt(60);
    }

    public static void main(String[] args) {
        for (int seed = 0; seed < RUNS; seed++) {
            new ModelTest(seed).runCalls();
        }
        check.end();
    }

    private void runCalls() {
        for (int call = 0; call < CALLS; call++) {
            // Early calls mostly build, later ones mostly use what stands.
            int kind = call < 20 ? random.nextInt(3) : random.nextInt(100);
            makeCall(call, kind);
        }
        look();
    }

    private void makeCall(int call, int kind) {
        if (kind < 1) {
            order(call);
        } else if (kind < 3) {
            heat(call);
        } else if (kind < 9) {
            stop(call);
        } else if (kind < 12) {
            same(call + " go()", Check.answerOf(x::go), Check.answerOf(model::go));
        } else if (kind < 16) {
            clock(call);
        } else if (kind < 28) {
            place(call);
        } else if (kind < 34) {
            divert(call);
        } else if (kind < 46) {
            run(call);
        } else if (kind < 54) {
            undo(call);
        } else if (kind < 64) {
            copies(call);
        } else {
            ask(call);
        }
    }

    private void same(String call, String got, String due) {
        check.same(name + call, got, due);
    }

    /** A number from least to most, or now and then one outside. */
    private int about(int least, int most) {
        int dice = random.nextInt(60);
        if (dice == 0) {
            return least - 1;
        }
        if (dice == 1) {
            return most + 1;
        }
        if (dice == 2) {
            return random.nextInt();
        }
        return least + random.nextInt(most - least + 1);
    }

    private void order(int call) {
        int grade = random.nextInt(4) == 0 ? about(0, 9) : about(0, 1);
        int due = random.nextInt(4) == 0 ? about(0, 200) : about(0, 60);
        same(call + " order(" + grade + ", " + due + ")",
                Check.answerOf(() -> x.order(grade, due)), Check.answerOf(() -> model.order(grade, due)));
    }

    private void heat(int call) {
        int order = random.nextInt(5) == 0 ? about(0, 7) : 0;
        int length = about(1, longest);
        int units = about(1, 7);
        int unit = about(0, 2);
        int minute = about(0, 59);
        same(call + " heat(" + order + ", " + length + ", " + units + ", " + unit + ", " + minute + ")",
                Check.answerOf(() -> x.heat(order, length, units, unit, minute)),
                Check.answerOf(() -> model.heat(order, length, units, unit, minute)));
    }

    private void stop(int call) {
        int unit = about(0, 2);
        int from = about(0, 59);
        int to = random.nextInt(8) == 0 ? about(0, 60) : Math.min(60, from + about(1, longestStop));
        same(call + " stop(" + unit + ", " + from + ", " + to + ")",
                Check.answerOf(() -> x.stop(unit, from, to)), Check.answerOf(() -> model.stop(unit, from, to)));
    }

    private void clock(int call) {
        boolean free = random.nextInt(3) != 0;
        int now = free ? about(0, 5) : about(0, 60);
        int freeze = free ? about(0, 5) : about(0, 60);
        same(call + " clock(" + now + ", " + freeze + ")",
                Check.answerOf(() -> x.clock(now, freeze)), Check.answerOf(() -> model.clock(now, freeze)));
    }

    private void place(int call) {
        int heat = about(0, 5);
        int unit = about(0, 2);
        int minute = about(0, 59);
        same(call + " place(" + heat + ", " + unit + ", " + minute + ")",
                Check.answerOf(() -> x.place(heat, unit, minute)),
                Check.answerOf(() -> model.place(heat, unit, minute)));
    }

    private void divert(int call) {
        int heat = about(0, 5);
        int order = about(0, 7);
        same(call + " divert(" + heat + ", " + order + ")",
                Check.answerOf(() -> x.divert(heat, order)), Check.answerOf(() -> model.divert(heat, order)));
    }

    private void run(int call) {
        int nodes = random.nextInt(150) == 0 ? 100000 : random.nextInt(3) == 0 ? about(0, 3000) : about(0, 200);
        same(call + " run(" + nodes + ")",
                Check.answerOf(() -> x.run(nodes)), Check.answerOf(() -> model.run(nodes)));
        for (int what = 0; what < 4; what++) {
            told(call, what);
        }
    }

    private void told(int call, int what) {
        same(call + " told(" + what + ")",
                Check.answerOf(() -> x.told(what)), Check.answerOf(() -> model.told(what)));
    }

    private void undo(int call) {
        same(call + " undo()", Check.answerOf(x::undo), Check.answerOf(model::undo));
    }

    private void copies(int call) {
        int copy = about(0, 3);
        int kind = random.nextInt(3);
        if (kind == 0) {
            same(call + " keep(" + copy + ")",
                    Check.answerOf(() -> x.keep(copy)), Check.answerOf(() -> model.keep(copy)));
        } else if (kind == 1) {
            compare(call, copy);
        } else {
            same(call + " use(" + copy + ")",
                    Check.answerOf(() -> x.use(copy)), Check.answerOf(() -> model.use(copy)));
        }
    }

    private void compare(int call, int copy) {
        same(call + " compare(" + copy + ")",
                Check.answerOf(() -> x.compare(copy)), Check.answerOf(() -> model.compare(copy)));
    }

    private void ask(int call) {
        int kind = random.nextInt(10);
        if (kind == 0) {
            told(call, about(0, 3));
        } else if (kind < 3) {
            cost(call);
        } else if (kind < 5) {
            int unit = about(0, 2);
            int minute = about(0, 59);
            same(call + " on(" + unit + ", " + minute + ")",
                    Check.answerOf(() -> x.on(unit, minute)), Check.answerOf(() -> model.on(unit, minute)));
        } else {
            at(call, about(0, 5), about(0, 4));
        }
    }

    private void cost(int call) {
        same(call + " cost()", Check.answerOf(x::cost), Check.answerOf(model::cost));
    }

    private void at(int call, int heat, int what) {
        same(call + " at(" + heat + ", " + what + ")",
                Check.answerOf(() -> x.at(heat, what)), Check.answerOf(() -> model.at(heat, what)));
    }

    private void look() {
        for (int heat = 0; heat < 6; heat++) {
            for (int what = 0; what < 5; what++) {
                at(CALLS, heat, what);
            }
        }
        for (int copy = 0; copy < 4; copy++) {
            compare(CALLS, copy);
        }
        cost(CALLS);
    }
}
