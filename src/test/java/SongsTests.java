/** Promises 12 to 16: what a SONG would do, and who bears how long. */
final class SongsTests {
    private SongsTests() {
    }

    static void run() {
        Report.test("promise 12: left", SongsTests::left);
        Report.test("promise 12: left, from now on", SongsTests::leftFromNow);
        Report.test("promise 13: firstTurn", SongsTests::firstTurn);
        Report.test("promise 14: order", SongsTests::order);
        Report.test("promise 14: order, each one of five", SongsTests::everyOrder);
        Report.test("promise 14: order, from now on", SongsTests::orderFromNow);
        Report.test("promise 15: share", SongsTests::share);
        Report.test("promise 15: share, from now on", SongsTests::shareFromNow);
        Report.test("promise 16: bears", SongsTests::bears);
        Report.test("promise 16: bears, from now on", SongsTests::bearsFromNow);
        Report.test("promises 12 to 16: nothing is changed", SongsTests::nothingChanges);
    }

    private static void left() {
        GorgeRow row = Rows.of("G59W00W00W00");
        Report.due("left(1, 0)", row.left(1, 0), 1 + 4);
        Report.due("left(1, 6)", row.left(1, 6), 7);
        Report.due("left(1, 4)", row.left(1, 4), 1 + 4);
        Report.due("left(1, 2)", row.left(1, 2), 1 + 2);
        Report.due("left(2, 600)", row.left(2, 600), 1 + 4);
        Report.due("left(2, 6)", row.left(2, 6), 1 + 4);
        Report.due("left(2, 204)", row.left(2, 204), 1);
        Report.due("left(2, 402)", row.left(2, 402), 1);
        Report.due("left(2, 404)", row.left(2, 404), 1 + 4);
        Report.due("left(3, 60606)", row.left(3, 60606), 7);
        Report.due("left(5, 0606060606)", row.left(5, 606060606), 7);
        // Bits of WALKERS that there are not do not count.
        Report.due("left(1, 30)", row.left(1, 30), 7);
        Report.due("left(1, 24)", row.left(1, 24), 1 + 4);
        Report.due("left(5, 3131313131)", row.left(5, 3131313131L), 7);
        Report.due("left(1, 31) of nobody", new GorgeRow().left(1, 31), 0);
    }

    private static void leftFromNow() {
        // From the QUIET there is now.
        GorgeRow row = Rows.of("G59W10W10W10");
        Report.due("left(1, 0)", row.left(1, 0), 7);
        row.minute(4);
        Report.due("left(1, 0), 0 has heard nothing", row.left(1, 0), 1 + 4);
        Report.due("left(1, 2)", row.left(1, 2), 7);
        // From the PLACE and THE ROW there are now: one that carries, at an odd PLACE.
        GorgeRow odd = Rows.of("G59W00W03");
        Report.due("left(1, 2) at PLACE 0", odd.left(1, 2), 3);
        odd.minute(2);
        Report.due("left(1, 2) at PLACE 1", odd.left(1, 2), 1);
        GorgeRow changed = Rows.of("G59W00W50W00");
        changed.change(0);
        Report.due("left(1, 0), 1 ahead", changed.left(1, 0), 1 + 2);
        // No farther than LIGHT.
        GorgeRow near = Rows.of("G29W10W10W10");
        Report.due("left(5, 0): two MINUTES", near.left(5, 0), 1 + 4);
        near.minute(6);
        Report.due("left(5, 0): one MINUTE", near.left(5, 0), 7);
        near.minute(0);
        Report.due("left(5, 0) at LIGHT", near.left(5, 0), 7);
    }

    private static void firstTurn() {
        GorgeRow row = Rows.of("G59W00W00W00");
        Report.due("firstTurn(1, 0)", row.firstTurn(1, 0), 0);
        Report.due("firstTurn(1, 6)", row.firstTurn(1, 6), -9);
        Report.due("firstTurn(2, 600)", row.firstTurn(2, 600), 1);
        Report.due("firstTurn(2, 6)", row.firstTurn(2, 6), 0);
        Report.due("firstTurn(3, 60606)", row.firstTurn(3, 60606), -9);
        Report.due("firstTurn(5, 606060600)", row.firstTurn(5, 606060600), 4);
        Report.due("firstTurn(5, 606000000)", row.firstTurn(5, 606000000), 2);
        Report.due("firstTurn(5, 3131313131)", row.firstTurn(5, 3131313131L), -9);
        GorgeRow near = Rows.of("G29W10W10W10");
        Report.due("firstTurn(5, 0)", near.firstTurn(5, 0), 1);
        near.minute(2);
        Report.due("firstTurn(5, 0): 1 has heard nothing", near.firstTurn(5, 0), 0);
        near.minute(6);
        Report.due("firstTurn(5, 0) at LIGHT", near.firstTurn(5, 0), -9);
        GorgeRow far = Rows.of("G49W40W40");
        Report.due("firstTurn(5, 0): LIGHT comes first", far.firstTurn(5, 0), -9);
        Report.due("firstTurn(1, 31) of nobody", new GorgeRow().firstTurn(1, 31), -9);
        Report.due("firstTurn(1, 0) of one", Rows.of("G99W00").firstTurn(1, 0), -9);
    }

    private static void order() {
        // Who has NERVE 5 is best ahead, who has none last; of two such the first by number.
        dueOrder(Rows.of("G59W00W50W50"), 1, 0, 231, 3);
        dueOrder(Rows.of("G59W50W00W50"), 1, 0, 132, 3);
        dueOrder(Rows.of("G59W50W50W00"), 1, 0, 123, 3);
        // All orders are alike: each first one loses the second one.
        dueOrder(Rows.of("G59W00W00W00"), 1, 0, 123, 2);
        dueOrder(Rows.of("G59W00W00W00"), 1, 31, 123, 3);
        // Ones that sing are best behind one that would not hear others.
        dueOrder(Rows.of("G59W02W02W00"), 1, 0, 312, 3);
        // DEAF ones never TURN.
        dueOrder(Rows.of("G59W00W00W01W01"), 2, 0, 3412, 3);
        // Only 0 treads so, and 2 is DEAF: the last of all orders is the one that loses nobody.
        dueOrder(Rows.of("G59W00W00W01"), 1, 1, 321, 3);
        dueOrder(Rows.of("G59"), 3, 60606, 0, 0);
        dueOrder(new GorgeRow(), 1, 0, 0, 0);
        dueOrder(Rows.of("G59W30"), 5, 0, 1, 1);
    }

    /**
     * By one SONG all come out in one order alone. Parts 0 .. 4 are given to the WALKERS in all ways:
     * part 0 treads in each MINUTE, 1 in each second one, 2 in each third one, 3 once, 4 never; and
     * the NERVE of each part bears only what is behind it in the order 4 3 2 1 0.
     */
    private static void everyOrder() {
        int[] nerves = {0, 0, 1, 2, 3};
        int[][] minutes = {{0}, {0, 1}, {0, 2}, {0, 1, 3}, {0}};
        int orders = 0;
        for (int number = 0; number < 100000; number++) {
            int[] walkerOf = {number / 10000, number / 1000 % 10, number / 100 % 10, number / 10 % 10, number % 10};
            int bits = 0;
            for (int walker : walkerOf) {
                bits |= 1 << walker;
            }
            if (bits != 31) {
                continue;
            }
            orders++;
            StringBuilder text = new StringBuilder("G99W00W00W00W00W00");
            int figures = 0;
            for (int part = 4; part >= 0; part--) {
                text.setCharAt(4 + 3 * walkerOf[part], (char) ('0' + nerves[part]));
                figures = figures * 10 + walkerOf[part] + 1;
            }
            long song = 0;
            for (int[] parts : minutes) {
                song *= 100;
                for (int part : parts) {
                    song += 1 << walkerOf[part];
                }
            }
            dueOrder(Rows.of(text.toString()), 5, song, figures, 5);
        }
        Report.due("orders that were tried", orders, 120);
    }

    private static void orderFromNow() {
        // Of those in THE ROW alone.
        GorgeRow row = Rows.of("G59W50W00W50W00W50");
        row.minute(2 + 16);
        Report.due("about(6)", row.about(6), 1245);
        dueOrder(row, 1, 2, 1542, 4);
        // By number, however they walk now, and with QUIET 0.
        GorgeRow changed = Rows.of("G59W10W10W10");
        changed.change(0);
        changed.change(1);
        changed.minute(0);
        Report.due("left(1, 0)", changed.left(1, 0), 1 + 2);
        dueOrder(changed, 1, 0, 123, 3);
        dueOrder(changed, 2, 0, 123, 2);
        // From the PLACE there is now.
        GorgeRow odd = Rows.of("G39W00W03W50");
        dueOrder(odd, 1, 2, 312, 3);
        odd.minute(6);
        dueOrder(odd, 1, 2, 123, 2);
        odd.change(0);
        Rows.minutes(odd, 7, 7);
        dueOrder(odd, 5, 0, 123, 3);
    }

    private static void dueOrder(GorgeRow row, int n, long song, int figures, int many) {
        String arguments = "(" + n + ", " + song + ", ";
        Report.due("order" + arguments + "0)", row.order(n, song, 0), figures);
        Report.due("order" + arguments + "1)", row.order(n, song, 1), many);
    }

    private static void share() {
        GorgeRow two = Rows.of("G19W00W00");
        dueShare(two, 0, 1, 0, 1, 2);
        dueShare(two, 1, 1, 0, 1, 2);
        dueShare(two, 0, 1, 2, 1, 1);
        dueShare(two, 1, 1, 2, 1, 1);
        // 0 loses one of the others in each MINUTE: behind k of them it makes 1 - k more.
        GorgeRow three = Rows.of("G99W00W50W50");
        dueShare(three, 0, 2, 0, 0, 1);
        dueShare(three, 1, 2, 0, 1, 2);
        dueShare(three, 2, 2, 0, 1, 2);
        GorgeRow four = Rows.of("G99W00W50W50W50");
        dueShare(four, 0, 3, 0, -1, 2);
        dueShare(four, 3, 3, 0, 1, 2);
        // Behind more than two it makes 1 - 2: 1, 0, -1, -1.
        dueShare(four, 0, 2, 0, -1, 4);
        GorgeRow five = Rows.of("G99W00W50W50W50W50");
        dueShare(five, 0, 4, 0, -1, 1);
        dueShare(five, 4, 4, 0, 1, 2);
        dueShare(five, 0, 5, 3131313131L, 1, 1);
        // Only the last one is heard.
        GorgeRow middle = Rows.of("G99W00W00W00");
        dueShare(middle, 0, 1, 4, 1, 2);
        dueShare(middle, 1, 1, 4, 1, 2);
        dueShare(middle, 2, 1, 4, 1, 1);
        dueShare(Rows.of("G99W00"), 0, 5, 0, 1, 1);
    }

    private static void shareFromNow() {
        // In the order of THE ROW.
        GorgeRow changed = Rows.of("G99W00W50W50");
        changed.change(0);
        // THE ROW is 1 0 2: 0 loses only 2.
        dueShare(changed, 0, 2, 0, 1, 2);
        dueShare(changed, 1, 2, 0, 1, 1);
        dueShare(changed, 2, 2, 0, 1, 2);
        // With QUIET 0, and at the PLACE there is now.
        GorgeRow quiet = Rows.of("G29W10W10");
        quiet.minute(0);
        dueShare(quiet, 0, 1, 0, 1, 1);
        dueShare(quiet, 1, 5, 0, 1, 1);
        GorgeRow odd = Rows.of("G29W00W03");
        dueShare(odd, 1, 1, 2, 1, 1);
        odd.minute(2);
        dueShare(odd, 1, 1, 2, 1, 2);
        odd.minute(0);
        dueShare(odd, 0, 1, 2, 1, 1);
        dueShare(odd, 1, 1, 2, 0, 1);
    }

    private static void dueShare(GorgeRow row, int walker, int n, long song, int upper, int lower) {
        String arguments = "(" + walker + ", " + n + ", " + song + ", ";
        Report.due("share" + arguments + "true)", row.share(walker, n, song, true), upper);
        Report.due("share" + arguments + "false)", row.share(walker, n, song, false), lower);
    }

    private static void bears() {
        GorgeRow row = Rows.of("G99W10W30W00");
        Report.due("bears(0)", row.bears(0), 2);
        Report.due("bears(1): LOST by then", row.bears(1), -9);
        Report.due("bears(2): the last one", row.bears(2), -9);
        // Others TURN, too: 1 loses 2 and is the last one; 0 loses 1.
        GorgeRow others = Rows.of("G99W30W00W00");
        Report.due("bears(1)", others.bears(1), 1);
        Report.due("bears(0)", others.bears(0), 4);
        Report.due("bears(2)", others.bears(2), -9);
        // Two that TURN in the same MINUTE.
        GorgeRow both = Rows.of("G99W00W00W00W00");
        Report.due("bears(0)", both.bears(0), 1);
        Report.due("bears(2)", both.bears(2), 1);
        Report.due("bears(1)", both.bears(1), -9);
        // It does not TURN behind one that is the last one by then.
        GorgeRow last = Rows.of("G99W50W20W00W50");
        Report.due("bears(2)", last.bears(2), 1);
        Report.due("bears(1)", last.bears(1), 3);
        Report.due("bears(0)", last.bears(0), 6);
        // The first time is told, though it TURNS again.
        GorgeRow again = Rows.of("G99W00W50W50W50");
        Report.due("bears(0)", again.bears(0), 1);
        Report.due("bears(0), DEAF", Rows.of("G99W01W00").bears(0), -9);
        Report.due("bears(0), one that sings behind it", Rows.of("G99W00W02").bears(0), -9);
        Report.due("bears(0), WATER", Rows.of("G99W50W00").bears(0), 6);
        Report.due("bears(0), WATER", Rows.of("G92W50W00").bears(0), 9);
        Report.due("bears(0), WATER", Rows.of("G93W50W00").bears(0), -9);
        Report.due("bears(0), LIGHT", Rows.of("G29W10W00").bears(0), 2);
        Report.due("bears(0), LIGHT", Rows.of("G19W10W00").bears(0), -9);
        Report.due("bears(0), alone", Rows.of("G99W00").bears(0), -9);
    }

    private static void bearsFromNow() {
        GorgeRow row = Rows.of("G99W20W50W50");
        row.minute(4);
        Report.due("bears(0)", row.bears(0), 2);
        row.change(0);
        Report.due("bears(0), its QUIET is 0", row.bears(0), 3);
        Report.due("bears(1)", row.bears(1), 6);
        Rows.minutes(row, 0, 0, 0);
        Report.due("bears(2), LOST", row.bears(2), -3);
        Report.due("bears(0), the last one", row.bears(0), -9);
        Report.due("bears(1)", row.bears(1), 3);
        GorgeRow out = Rows.of("G19W00W00");
        out.minute(2);
        Report.due("bears(0) at LIGHT", out.bears(0), -9);
        for (int walker : new int[] {-1, 3, 5, 32, Integer.MIN_VALUE, Integer.MAX_VALUE}) {
            Report.due("bears(" + walker + ")", row.bears(walker), -1);
        }
    }

    private static void nothingChanges() {
        GorgeRow row = Rows.of("G99W10W21W32W03W00");
        GorgeRow other = Rows.of("G99W10W21W32W03W00");
        for (GorgeRow each : new GorgeRow[] {row, other}) {
            each.keep(0);
            each.minute(31);
            each.change(1);
            each.tell(2, true);
            each.seed(8);
        }
        for (int walker = 0; walker < 5; walker++) {
            row.left(3, walker * 100);
            row.firstTurn(5, walker);
            row.order(4, walker, 0);
            row.share(walker, 3, 50202, true);
            row.bears(walker);
        }
        Report.holds("nothing is changed", Rows.toldToTheEnd(row).equals(Rows.toldToTheEnd(other)));
    }
}
