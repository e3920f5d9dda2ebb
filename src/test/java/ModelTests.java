import java.util.Random;

/** Long runs of calls, each answer held against the model's; the same runs each time. */
final class ModelTests {
    private static final int RUNS = 300;
    /** What later calls of one object answer is free. */
    private static final int CALLS = 512;
    private static final int CALLS_OF_NEW_GORGE = 21;
    private static final int CALLS_OF_ALL = 4;
    private static final int[] ODD = {-1, 0, 1, 2, 3, 4, 5, 6, 7, 8, 9, 10, 11, 20, 21, 31, 32, 50, 51, 255, 256,
        Integer.MIN_VALUE, Integer.MAX_VALUE};

    private final Random random;
    private final int run;
    private final GorgeRow row = new GorgeRow();
    private final Model model = new Model();
    private int calls = 0;
    private int last = 0;

    private ModelTests(int run) {
        this.run = run;
        this.random = new Random(run);
    }

    static void run() {
        Report.test("all promises: " + RUNS + " runs as the model has them", () -> {
            for (int run = 0; run < RUNS; run++) {
                new ModelTests(run).go();
            }
        });
        Report.test("promise 17: still, all there are", ModelTests::everyStill);
        Report.test("promise 18: pebbles, all there are", ModelTests::everyPebbles);
        Report.test("promise 22: link, all there are", ModelTests::everyLink);
    }

    private void go() {
        if (random.nextInt(10) != 0) {
            newGorge();
        }
        while (calls <= CALLS - CALLS_OF_NEW_GORGE) {
            call(random.nextInt(40));
        }
        while (calls <= CALLS - CALLS_OF_ALL) {
            all();
        }
    }

    private void call(int kind) {
        if (kind < 5) {
            minute();
        } else if (kind < 8) {
            due("change", row.change(lastAs(-1, 4)), model.change(last));
        } else if (kind == 8) {
            due("rest", row.rest(), model.rest());
        } else if (kind < 12) {
            due("undo", row.undo(), model.undo());
        } else if (kind < 21) {
            song();
        } else if (kind < 29) {
            heard(kind);
        } else if (kind == 29) {
            due("keep", row.keep(lastAs(-1, 2)), model.keep(last));
        } else if (kind == 30) {
            due("again", row.again(lastAs(-1, 2)), model.again(last));
        } else if (kind == 31 && random.nextInt(3) == 0) {
            newGorge();
        } else if (kind == 32) {
            due("write", row.write(lastAs(40, 100)), model.write(last));
        } else if (kind == 33 && random.nextInt(4) == 0) {
            due("wipe", row.wipe(), model.wipe());
        } else if (kind == 34) {
            due("gorge", row.gorge(), model.gorge());
        } else {
            all();
        }
    }

    private void newGorge() {
        due("wipe", row.wipe(), model.wipe());
        StringBuilder text = new StringBuilder("G");
        text.append(1 + random.nextInt(9)).append(random.nextInt(10));
        // Some calm ones and some that hardly TURN, so that rows stay long and grow short.
        int nerves = 1 + random.nextInt(6);
        int walkers = random.nextInt(4) == 0 ? random.nextInt(6) : 5;
        for (int k = 0; k < walkers; k++) {
            text.append('W').append(random.nextInt(nerves)).append(random.nextInt(random.nextBoolean() ? 1 : 4));
        }
        if (random.nextInt(8) == 0) {
            text.setCharAt(random.nextInt(text.length()), (char) random.nextInt(256));
        }
        for (int i = 0; i < text.length(); i++) {
            due("write", row.write(text.charAt(i)), model.write(text.charAt(i)));
        }
        due("fault", row.fault(), model.fault());
        due("gorge", row.gorge(), model.gorge());
    }

    private void minute() {
        int walkers = model.about(0);
        int treads = random.nextInt(12) == 0 ? odd() : random.nextInt(1 << walkers);
        due("minute " + treads, row.minute(treads), model.minute(treads));
    }

    private void song() {
        int n = random.nextInt(25) == 0 ? odd() : 1 + random.nextInt(5);
        long song = 0;
        for (int k = 0; k < Math.min(n, 5); k++) {
            song = song * 100 + random.nextInt(random.nextInt(12) == 0 ? 40 : 32);
        }
        if (random.nextInt(25) == 0) {
            song = random.nextBoolean() ? random.nextLong() : odd();
        }
        boolean upper = random.nextBoolean();
        int walker = random.nextInt(20) == 0 ? odd() : random.nextInt(5);
        String name = n + " " + song + " " + walker + " " + upper;
        switch (random.nextInt(5)) {
            case 0: due("left " + name, row.left(n, song), model.left(n, song)); break;
            case 1: due("firstTurn " + name, row.firstTurn(n, song), model.firstTurn(n, song)); break;
            case 2: due("order " + name, row.order(n, song, lastAs(0, 1)), model.order(n, song, last)); break;
            case 3: due("share " + name, row.share(walker, n, song, upper), model.share(walker, n, song, upper)); break;
            default: due("bears " + name, row.bears(walker), model.bears(walker)); break;
        }
    }

    private void heard(int kind) {
        boolean flag = random.nextBoolean();
        switch (kind) {
            case 21:
            case 22: due("tell " + flag, row.tell(lastAs(-1, 9), flag), model.tell(last, flag)); break;
            case 23:
                if (random.nextInt(3) == 0) {
                    due("untell", row.untell(), model.untell());
                }
                break;
            case 24:
            case 25: due("letGo " + flag, row.letGo(flag), model.letGo(flag)); break;
            case 26:
                long seed = random.nextBoolean() ? random.nextLong() : odd();
                due("seed " + seed, row.seed(seed), model.seed(seed));
                break;
            case 27: due("gorges", row.gorges(lastAs(0, 21)), model.gorges(last)); break;
            default: chances(flag); break;
        }
    }

    private void chances(boolean flag) {
        int a = anyOf(0, 6);
        int b = anyOf(0, 10);
        int c = anyOf(0, 6);
        int d = anyOf(0, 10);
        due("still", row.still(a, b, c, d, flag), model.still(a, b, c, d, flag));
        due("pebbles", row.pebbles(a, d, flag), model.pebbles(a, d, flag));
        due("link", row.link(a, b, c, flag), model.link(a, b, c, flag));
    }

    private void all() {
        int what = random.nextInt(13) - 1;
        due("about " + what, row.about(what), model.about(what));
        int walker = random.nextInt(7) - 1;
        int of = random.nextInt(7) - 1;
        due("walker " + walker + " " + of, row.walker(walker, of), model.walker(walker, of));
        due("fault", row.fault(), model.fault());
        due("about 6", row.about(6), model.about(6));
    }

    /** A number that is asked for twice, of the row and of the model: last is what it was. */
    private int lastAs(int least, int most) {
        last = anyOf(least, most);
        return last;
    }

    private int anyOf(int least, int most) {
        return random.nextInt(25) == 0 ? odd() : least + random.nextInt(most - least + 1);
    }

    private int odd() {
        return ODD[random.nextInt(ODD.length)];
    }

    private void due(String call, long got, long want) {
        calls++;
        if (got != want) {
            Report.due("run " + run + ", call " + calls + ": " + call + " (" + last + ")", got, want);
        }
    }

    private static void everyStill() {
        Model model = new Model();
        for (int n = 1; n <= 4; n++) {
            for (int heard = 0; heard < 1 << n; heard++) {
                GorgeRow row = new GorgeRow();
                for (int k = 0; k < 11 * 11 * 2; k++) {
                    int x = k / 22;
                    int y = k / 2 % 11;
                    boolean upper = k % 2 == 1;
                    Report.due("still(" + n + ", " + heard + ", " + x + ", " + y + ", " + upper + ")",
                            row.still(n, heard, x, y, upper), model.still(n, heard, x, y, upper));
                }
            }
        }
    }

    private static void everyPebbles() {
        Model model = new Model();
        for (int c = 0; c <= 6; c++) {
            GorgeRow row = new GorgeRow();
            for (int n = -1; n <= 51; n++) {
                String arguments = "(" + c + ", " + n + ", ";
                Report.due("pebbles" + arguments + "false)", row.pebbles(c, n, false), model.pebbles(c, n, false));
                Report.due("pebbles" + arguments + "true)", row.pebbles(c, n, true), model.pebbles(c, n, true));
            }
        }
    }

    private static void everyLink() {
        Model model = new Model();
        for (int v = 0; v <= 5; v++) {
            GorgeRow row = new GorgeRow();
            for (int x = 0; x <= 10; x++) {
                for (int n = 0; n <= 6; n++) {
                    String arguments = "(" + v + ", " + x + ", " + n + ", ";
                    Report.due("link" + arguments + "true)", row.link(v, x, n, true), model.link(v, x, n, true));
                    Report.due("link" + arguments + "false)", row.link(v, x, n, false), model.link(v, x, n, false));
                }
            }
        }
    }
}
