/** Promises 17 to 24: what was heard, pebbles, chances, THE SEED. */
final class HeardTests {
    private static final long MULTIPLIER = 6364136223846793005L;
    private static final long ADDEND = 1442695040888963407L;

    private HeardTests() {
    }

    static void run() {
        Report.test("promise 17: still", HeardTests::still);
        Report.test("promise 18: pebbles", HeardTests::pebbles);
        Report.test("promise 18: pebbles, by looking for the most rows", HeardTests::pebblesByLooking);
        Report.test("promise 19: tell", HeardTests::tell);
        Report.test("promise 20: untell", HeardTests::untell);
        Report.test("promise 21: letGo", HeardTests::letGo);
        Report.test("promise 22: link", HeardTests::link);
        Report.test("promise 23: seed", HeardTests::seed);
        Report.test("promise 24: gorges", HeardTests::gorges);
        Report.test("promise 24: gorges, by the upper bits", HeardTests::gorgesByBits);
    }

    private static void still() {
        GorgeRow row = new GorgeRow();
        dueStill(row, 1, 0, 5, 5, 1, 3);
        dueStill(row, 1, 1, 5, 5, 1, 1);
        dueStill(row, 1, 0, 0, 3, 7, 10);
        dueStill(row, 1, 0, 0, 5, 1, 2);
        dueStill(row, 1, 0, 7, 2, 6, 11);
        // Heard in the first MINUTE, not in the second: bit 0 is the first one.
        dueStill(row, 2, 1, 5, 5, 1, 3);
        dueStill(row, 2, 2, 5, 5, 1, 1);
        dueStill(row, 2, 0, 5, 5, 1, 11);
        dueStill(row, 4, 0, 5, 5, 1, 171);
        dueStill(row, 3, 1, 7, 2, 36, 191);
        dueStill(row, 4, 8, 1, 9, 1, 1);
        dueStill(row, 4, 15, 10, 0, 1, 1);
        dueStill(row, 4, 15, 1, 9, 1, 1);
        // It is surely LOST, or was surely heard while it was there.
        dueStill(row, 1, 0, 5, 10, 0, 1);
        dueStill(row, 4, 0, 0, 10, 0, 1);
        dueStill(row, 2, 1, 10, 5, 0, 1);
        dueStill(row, 4, 0, 0, 0, 1, 1);
        dueStill(row, 4, 0, 10, 1, 0, 1);
    }

    private static void dueStill(GorgeRow row, int n, int heard, int x, int y, int upper, int lower) {
        String arguments = "(" + n + ", " + heard + ", " + x + ", " + y + ", ";
        Report.due("still" + arguments + "true)", row.still(n, heard, x, y, true), upper);
        Report.due("still" + arguments + "false)", row.still(n, heard, x, y, false), lower);
    }

    private static void pebbles() {
        GorgeRow row = new GorgeRow();
        int[] most = {1, 2, 4, 8, 16, 32, 64};
        for (int n = 1; n <= 50; n++) {
            int due = 0;
            while (most[due] < n + 1) {
                due++;
            }
            Report.due("pebbles(2, " + n + ", false)", row.pebbles(2, n, false), due);
            Report.due("pebbles(2, " + n + ", true)", row.pebbles(2, n, true), due + 1);
            Report.due("pebbles(1, " + n + ", false)", row.pebbles(1, n, false), -9);
            Report.due("pebbles(1, " + n + ", true)", row.pebbles(1, n, true), -9);
        }
        for (int c = 1; c <= 5; c++) {
            Report.due("pebbles(" + c + ", 0, false)", row.pebbles(c, 0, false), 0);
            Report.due("pebbles(" + c + ", 0, true)", row.pebbles(c, 0, true), 0);
        }
        int[][] edges = {{3, 2, 1}, {3, 3, 2}, {3, 8, 2}, {3, 9, 3}, {3, 26, 3}, {3, 27, 4}, {3, 50, 4},
            {4, 3, 1}, {4, 4, 2}, {4, 15, 2}, {4, 16, 3}, {4, 50, 3},
            {5, 4, 1}, {5, 5, 2}, {5, 24, 2}, {5, 25, 3}, {5, 50, 3}};
        for (int[] edge : edges) {
            String arguments = "(" + edge[0] + ", " + edge[1] + ", ";
            Report.due("pebbles" + arguments + "false)", row.pebbles(edge[0], edge[1], false), edge[2]);
            Report.due("pebbles" + arguments + "true)", row.pebbles(edge[0], edge[1], true), edge[2] + 1);
        }
    }

    /** The most rows that differ twice from each other are looked for one by one. */
    private static void pebblesByLooking() {
        GorgeRow row = new GorgeRow();
        int[][] sizes = {{1, 1}, {1, 2}, {2, 1}, {2, 2}, {2, 3}, {2, 4}, {3, 1}, {3, 2}, {4, 1}, {4, 2}, {5, 1}};
        for (int[] size : sizes) {
            int c = size[0];
            int length = size[1];
            int count = (int) Math.round(Math.pow(c, length));
            int most = mostRows(c, length, count, 0, new int[count], 0);
            if (most <= 51) {
                int got = row.pebbles(c, most - 1, true);
                Report.holds(most + " rows of " + length + " of " + c, got != -9 && got <= length);
            }
            if (most <= 50) {
                int got = row.pebbles(c, most, true);
                Report.holds("no more rows of " + length + " of " + c, got == -9 || got > length);
            }
        }
    }

    private static int mostRows(int c, int length, int count, int from, int[] chosen, int many) {
        int most = many;
        for (int next = from; next < count && many + count - next > most; next++) {
            boolean fits = true;
            for (int k = 0; k < many && fits; k++) {
                fits = differences(c, length, chosen[k], next) >= 2;
            }
            if (fits) {
                chosen[many] = next;
                most = Math.max(most, mostRows(c, length, count, next + 1, chosen, many + 1));
            }
        }
        return most;
    }

    private static int differences(int c, int length, int one, int other) {
        int differences = 0;
        for (int k = 0; k < length; k++) {
            differences += one % c != other % c ? 1 : 0;
            one /= c;
            other /= c;
        }
        return differences;
    }

    private static void tell() {
        GorgeRow row = new GorgeRow();
        for (int t : new int[] {-1, 9, 32, Integer.MIN_VALUE, Integer.MAX_VALUE}) {
            Report.due("tell(" + t + ", true)", row.tell(t, true), -2);
            Report.due("tell(" + t + ", false)", row.tell(t, false), -2);
        }
        Report.due("about(8)", row.about(8), 0);
        Report.due("letGo(true)", row.letGo(true), 1023);
        Report.due("tell(0, false)", row.tell(0, false), 1);
        Report.due("tell(8, false)", row.tell(8, false), 2);
        Report.due("tell(8, false), the same", row.tell(8, false), 3);
        Report.due("tell(8, true)", row.tell(8, true), 4);
        Report.due("tell(1, true)", row.tell(1, true), 5);
        Report.due("tell(1, true), the same", row.tell(1, true), 6);
        String told = Rows.told(row);
        Report.due("tell(2, true), full", row.tell(2, true), -4);
        Report.due("tell(0, true), full", row.tell(0, true), -4);
        Report.due("tell(9, true), full: BAD ahead of FULL", row.tell(9, true), -2);
        Report.holds("nothing changed", told.equals(Rows.told(row)));
        Report.due("about(8)", row.about(8), 6);
    }

    private static void untell() {
        GorgeRow row = new GorgeRow();
        Report.due("untell(), nothing", row.untell(), 0);
        for (int k = 0; k < 6; k++) {
            row.tell(4, k % 2 == 0);
        }
        Report.due("letGo(true)", row.letGo(true), 0);
        Report.due("untell()", row.untell(), 6);
        Report.due("about(8)", row.about(8), 0);
        Report.due("letGo(true)", row.letGo(true), 1023);
        Report.due("letGo(false)", row.letGo(false), 1023);
        Report.due("untell(), nothing", row.untell(), 0);
        Report.due("tell(3, false)", row.tell(3, false), 1);
        Report.due("letGo(true)", row.letGo(true), 15);
    }

    private static void letGo() {
        // Heard in t: it let go behind t. Not heard, of one that sings: in t or ahead of it.
        for (int t = 0; t <= 8; t++) {
            dueLetGo(1023 - ((2 << t) - 1), 1023 - ((2 << t) - 1), t, true);
            dueLetGo((2 << t) - 1, 1023, t, false);
        }
        GorgeRow row = new GorgeRow();
        row.tell(2, true);
        row.tell(5, false);
        Report.due("letGo(true): 3, 4, 5", row.letGo(true), 8 + 16 + 32);
        Report.due("letGo(false): from 3 on", row.letGo(false), 1016);
        row.tell(4, true);
        Report.due("letGo(true): 5", row.letGo(true), 32);
        row.tell(7, true);
        Report.due("letGo(true): none", row.letGo(true), 0);
        Report.due("letGo(false): 8 and not at all", row.letGo(false), 256 + 512);
        row.untell();
        row.tell(7, true);
        row.tell(2, true);
        Report.due("letGo(false): 8 and not at all, all the same", row.letGo(false), 256 + 512);
        row.untell();
        row.tell(2, false);
        row.tell(7, false);
        Report.due("letGo(true): 0, 1, 2", row.letGo(true), 7);
        // Each for itself: heard and not heard in the same MINUTE agree, if it does not sing.
        row.untell();
        row.tell(6, false);
        row.tell(6, true);
        Report.due("letGo(true), both", row.letGo(true), 0);
        Report.due("letGo(false), both", row.letGo(false), 128 + 256 + 512);
        Report.due("about(8)", row.about(8), 2);
    }

    private static void dueLetGo(int singing, int other, int t, boolean heard) {
        GorgeRow row = new GorgeRow();
        row.tell(t, heard);
        Report.due("letGo(true), " + t + " " + heard, row.letGo(true), singing);
        Report.due("letGo(false), " + t + " " + heard, row.letGo(false), other);
    }

    private static void link() {
        GorgeRow row = new GorgeRow();
        dueLink(row, 0, 6, 1, 3, 5);
        dueLink(row, 0, 6, 2, 9, 25);
        dueLink(row, 0, 5, 6, 1, 64);
        dueLink(row, 0, 9, 6, 531441, 1000000);
        dueLink(row, 1, 6, 1, 1, 1);
        dueLink(row, 1, 6, 2, 21, 25);
        dueLink(row, 1, 6, 4, 81, 125);
        // Rows of six without two, three, .. one behind the other that were not heard.
        dueLink(row, 1, 5, 6, 21, 64);
        dueLink(row, 2, 5, 6, 44 / 4, 64 / 4);
        dueLink(row, 3, 5, 6, 56 / 8, 64 / 8);
        dueLink(row, 4, 5, 6, 61, 64);
        dueLink(row, 5, 5, 6, 63, 64);
        dueLink(row, 5, 1, 6, 468559, 1000000);
        dueLink(row, 5, 0, 5, 1, 1);
        dueLink(row, 5, 0, 6, 0, 1);
        dueLink(row, 0, 0, 1, 0, 1);
        dueLink(row, 0, 10, 6, 1, 1);
        for (int v = 0; v <= 5; v++) {
            for (int x = 0; x <= 10; x++) {
                dueLink(row, v, x, 0, 1, 1);
            }
        }
    }

    private static void dueLink(GorgeRow row, int v, int x, int n, int upper, int lower) {
        String arguments = "(" + v + ", " + x + ", " + n + ", ";
        Report.due("link" + arguments + "true)", row.link(v, x, n, true), upper);
        Report.due("link" + arguments + "false)", row.link(v, x, n, false), lower);
    }

    private static void seed() {
        GorgeRow row = Rows.of("G29W00W00");
        Report.due("seed(5)", row.seed(5), 0);
        Report.due("seed(MIN)", row.seed(Long.MIN_VALUE), 5);
        Report.due("seed(MAX)", row.seed(Long.MAX_VALUE), Long.MIN_VALUE);
        Report.due("seed(0)", row.seed(0), Long.MAX_VALUE);
        row.gorges(1);
        long second = ADDEND * MULTIPLIER + ADDEND;
        Report.due("seed(1) behind two MINUTES", row.seed(1), second);
        row.gorges(2);
        long due = 1;
        for (int k = 0; k < 4; k++) {
            due = due * MULTIPLIER + ADDEND;
        }
        Report.due("seed(0) behind four MINUTES", row.seed(0), due);
    }

    private static void gorges() {
        // At LIGHT all come out at once, and THE SEED stays.
        GorgeRow row = Rows.of("G19W00W50W00");
        row.minute(0);
        Report.due("gorges(20) at LIGHT", row.gorges(20), 40);
        Report.due("about(6)", row.about(6), 13);
        Report.due("seed(3)", row.seed(3), 0);
        // They do not TURN in so few MINUTES, whatever is heard.
        GorgeRow brave = Rows.of("G59W50W50W50");
        Report.due("gorges(7)", brave.gorges(7), 21);
        Report.due("about(3): nothing changes", brave.about(3), 0);
        Report.due("about(7): nothing changes", brave.about(7), 0);
        Report.holds("but THE SEED", brave.seed(0) != 0);
        // Behind the second of two MINUTES in which nothing was heard.
        GorgeRow quiet = Rows.of("G29W51W51W00W01");
        Report.due("gorges(20), DEAF ones", quiet.gorges(20), 80 - lostOf(quiet));
        Report.due("gorges(1) of nobody", new GorgeRow().gorges(1), 0);
    }

    /** Of 0, with 20 times two MINUTES, how often 2 does not hear 3: it is LOST then. */
    private static int lostOf(GorgeRow row) {
        int lost = 0;
        long x = 0;
        for (int time = 0; time < 20; time++) {
            boolean hears = true;
            for (int k = 0; k < 2; k++) {
                x = x * MULTIPLIER + ADDEND;
                hears &= (bitsOf(x) & 8) != 0;
            }
            lost += hears ? 0 : 1;
        }
        return lost;
    }

    private static long bitsOf(long x) {
        String binary = String.format("%64s", Long.toBinaryString(x)).replace(' ', '0');
        return Long.parseLong(binary.substring(0, 31), 2) % 32;
    }

    private static void gorgesByBits() {
        // One MINUTE, NERVE 0: both come out, if 1 treads so.
        for (long seed : new long[] {0, 1, -1, 5, 123456789, Long.MIN_VALUE, Long.MAX_VALUE}) {
            GorgeRow row = Rows.of("G29W00W00");
            row.minute(2);
            row.seed(seed);
            long x = seed;
            for (int call = 1; call <= 20; call++) {
                int due = 0;
                for (int time = 0; time < call; time++) {
                    x = x * MULTIPLIER + ADDEND;
                    due += (bitsOf(x) & 2) != 0 ? 2 : 1;
                }
                Report.due("gorges(" + call + ")", row.gorges(call), due);
            }
            Report.due("seed(0)", row.seed(0), x);
        }
        // Each of the five bits: all are DEAF but the one ahead of the WALKER whose bit it is.
        for (int bit = 0; bit < 5; bit++) {
            int ahead = bit == 0 ? 1 : bit - 1;
            StringBuilder text = new StringBuilder("G19W01W01W01W01W01");
            text.setCharAt(5 + 3 * ahead, '0');
            GorgeRow row = Rows.of(text.toString());
            if (bit == 0) {
                row.change(0);
            }
            int due = 0;
            long x = 0;
            for (int time = 0; time < 20; time++) {
                x = x * MULTIPLIER + ADDEND;
                due += (bitsOf(x) >> bit & 1) == 1 ? 5 : 4;
            }
            Report.due("gorges(20), bit " + bit, row.gorges(20), due);
        }
        // From the QUIET there is now.
        GorgeRow row = Rows.of("G29W10W00");
        row.minute(0);
        long x = ADDEND;
        Report.due("gorges(1)", row.gorges(1), (bitsOf(x) & 2) != 0 ? 2 : 1);
        GorgeRow other = Rows.of("G29W10W00");
        other.minute(2);
        Report.due("gorges(20)", other.gorges(20), 40);
    }
}
