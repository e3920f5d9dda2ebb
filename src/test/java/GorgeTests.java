/** Promises 1 to 7: THE TEXT, THE GORGE, who walks in it. */
final class GorgeTests {
    private GorgeTests() {
    }

    static void run() {
        Report.test("promise 1: a new object", GorgeTests::newObject);
        Report.test("promise 2: write", GorgeTests::write);
        Report.test("promise 3: wipe", GorgeTests::wipe);
        Report.test("promise 4: fault", GorgeTests::fault);
        Report.test("promise 5: gorge", GorgeTests::gorge);
        Report.test("promise 6: about", GorgeTests::about);
        Report.test("promise 7: walker", GorgeTests::walker);
    }

    private static void newObject() {
        GorgeRow row = new GorgeRow();
        int[] due = {0, 1, 9, 0, 0, 0, 0, 0, 0, 0, 0};
        for (int what = 0; what < due.length; what++) {
            Report.due("new: about(" + what + ")", row.about(what), due[what]);
        }
        Report.due("new: fault()", row.fault(), 0);
        Report.due("new: walker(0, 0)", row.walker(0, 0), -1);
        Report.due("new: undo()", row.undo(), -3);
        Report.due("new: again(0)", row.again(0), -3);
        Report.due("new: again(1)", row.again(1), -3);
        Report.due("new: letGo(true)", row.letGo(true), 1023);
        Report.due("new: seed(7)", row.seed(7), 0);
        Report.due("new: gorges(20)", row.gorges(20), 0);
        Report.due("new: share(0, 1, 0, true)", row.share(0, 1, 0, true), -1);
        Report.due("new: bears(0)", row.bears(0), -1);
        Report.due("new: minute(0)", row.minute(0), 0);
        Report.due("new: about(10) behind a minute", row.about(10), 1);
    }

    private static void write() {
        GorgeRow row = new GorgeRow();
        Report.due("write(-1)", row.write(-1), -2);
        Report.due("write(256)", row.write(256), -2);
        Report.due("write(MIN)", row.write(Integer.MIN_VALUE), -2);
        Report.due("write(MAX)", row.write(Integer.MAX_VALUE), -2);
        Report.due("about(9) behind what is refused", row.about(9), 0);
        Report.due("write(0)", row.write(0), 1);
        Report.due("write(255)", row.write(255), 2);
        for (int length = 3; length <= 32; length++) {
            Report.due("write, the " + length + "th", row.write(71), length);
        }
        Report.due("write, one too many", row.write(71), -4);
        Report.due("write, BAD ahead of FULL", row.write(256), -2);
        Report.due("about(9), full", row.about(9), 32);
    }

    private static void wipe() {
        GorgeRow row = Rows.of("G59W10");
        row.minute(0);
        Report.due("wipe()", row.wipe(), 6);
        Report.due("wipe(), empty", row.wipe(), 0);
        Report.due("about(9)", row.about(9), 0);
        Report.due("fault()", row.fault(), 0);
        Report.due("about(1): THE GORGE stays", row.about(1), 5);
        Report.due("about(3): PLACE stays", row.about(3), 1);
        Report.due("write(71)", row.write(71), 1);
        Report.due("fault()", row.fault(), 1);
        for (int length = 2; length <= 32; length++) {
            row.write(0);
        }
        Report.due("wipe(), full", row.wipe(), 32);
        Report.due("write(71)", row.write(71), 1);
    }

    private static void fault() {
        dueFault("", 0);
        dueFault("G", 1);
        dueFault("g", 0);
        dueFault("W", 0);
        dueFault("G0", 1);
        dueFault("G/", 1);
        dueFault("G:", 1);
        dueFault("G1", 2);
        dueFault("G9", 2);
        dueFault("G1/", 2);
        dueFault("G1:", 2);
        dueFault("G10", -9);
        dueFault("G99", -9);
        dueFault("G10X", 3);
        dueFault("G10w", 3);
        dueFault("G10W", 4);
        dueFault("G10W/", 4);
        dueFault("G10W6", 4);
        dueFault("G10W0", 5);
        dueFault("G10W5", 5);
        dueFault("G10W5/", 5);
        dueFault("G10W04", 5);
        dueFault("G10W53", -9);
        dueFault("G10W00W", 7);
        dueFault("G10W00G", 6);
        dueFault("G10W00W9", 7);
        dueFault("G10W00W11W22W33W50", -9);
        dueFault("G10W00W11W22W33W50W", 18);
        dueFault("G10W00W11W22W33W50W00", 18);
        dueFault("G10W00W11W22W33W50 ", 18);
        dueFault("G10W00W11W22W33W5", 17);
        dueFault("G0xW", 1);
        dueFault("G10W00W00\u00ff", 9);
        dueFault("G10W00W11W22W33W50W00W00W00W00W0", 18);
        GorgeRow row = Rows.written("G10");
        row.write(0);
        Report.due("fault() of G10 and 0", row.fault(), 3);
        Report.due("fault() changes nothing", row.about(9), 4);
    }

    private static void dueFault(String text, int due) {
        GorgeRow row = Rows.written(text);
        Report.due("fault() of " + text, row.fault(), due);
        if (due == -9) {
            Report.due("gorge() of " + text, row.gorge(), (text.length() - 3) / 3);
        } else {
            Report.due("gorge() of " + text, row.gorge(), -3);
        }
    }

    private static void gorge() {
        GorgeRow row = Rows.of("G72W10W21W32");
        Report.due("about(1)", row.about(1), 7);
        Report.due("about(2)", row.about(2), 2);
        Report.due("about(6)", row.about(6), 123);
        Report.due("about(9): THE TEXT stays", row.about(9), 12);
        row.tell(3, true);
        row.seed(77);
        row.change(1);
        Rows.minutes(row, 0, 0, 0, 0);
        row.keep(0);
        row.keep(1);
        Report.due("gorge(), made anew", row.gorge(), 3);
        Report.due("about(3): all at PLACE 0", row.about(3), 0);
        Report.due("about(6): by number", row.about(6), 123);
        Report.due("about(5): nobody is LOST", row.about(5), 0);
        Report.due("about(7): no ACTS", row.about(7), 0);
        Report.due("undo(): no ACTS", row.undo(), -3);
        for (int walker = 0; walker < 3; walker++) {
            Report.due("walker(" + walker + ", 2)", row.walker(walker, 2), 0);
        }
        Report.due("again(0): what was kept is gone", row.again(0), -3);
        Report.due("again(1): what was kept is gone", row.again(1), -3);
        Report.due("about(8): TOLD stays", row.about(8), 1);
        Report.due("letGo(true): TOLD stays", row.letGo(true), 1008);
        Report.due("seed(0): THE SEED stays", row.seed(0), 77);
        row.wipe();
        Rows.write(row, "G10");
        Report.due("gorge() of fewer", row.gorge(), 0);
        Report.due("about(0)", row.about(0), 0);
        Report.due("about(4)", row.about(4), 0);
        Report.due("walker(0, 0)", row.walker(0, 0), -1);
        Rows.remake(row, "G35W53W41");
        Report.due("walker(0, 0)", row.walker(0, 0), 5);
        Report.due("walker(0, 1)", row.walker(0, 1), 3);
        Report.due("walker(1, 0)", row.walker(1, 0), 4);
        Report.due("walker(1, 1)", row.walker(1, 1), 1);
    }

    private static void about() {
        // The second MINUTE makes 1 TURN (NERVE 0), and 2 is LOST.
        GorgeRow row = Rows.of("G34W20W00W10W51");
        row.change(2);
        row.change(2);
        row.minute(4 + 8);
        row.minute(2 + 8);
        row.tell(0, true);
        row.tell(0, true);
        row.write('W');
        int[] due = {4, 3, 4, 2, 11, 4, 124, 4, 2, 16, 0};
        for (int what = 0; what < due.length; what++) {
            Report.due("about(" + what + ")", row.about(what), due[what]);
        }
        row.minute(15);
        Report.due("about(3) at LIGHT", row.about(3), 3);
        Report.due("about(10) at LIGHT", row.about(10), 1);
        Report.due("about(4) at LIGHT", row.about(4), 11);
        Report.due("about(-1)", row.about(-1), -2);
        Report.due("about(11)", row.about(11), -2);
        Report.due("about(MIN)", row.about(Integer.MIN_VALUE), -2);
        Report.due("about(MAX)", row.about(Integer.MAX_VALUE), -2);
        GorgeRow five = Rows.of("G19W00W00W00W00W00");
        Report.due("about(6) of five", five.about(6), 12345);
        Report.due("about(4) of five", five.about(4), 31);
        Report.due("about(10) ahead of LIGHT", five.about(10), 0);
    }

    private static void walker() {
        GorgeRow row = Rows.of("G99W10W21W32W43W50");
        int[][] due = {{1, 0, 0, 0, 1}, {2, 1, 0, 1, 2}, {3, 2, 0, 2, 3}, {4, 3, 0, 3, 4}, {5, 0, 0, 4, -9}};
        for (int walker = 0; walker < due.length; walker++) {
            dueWalker(row, walker, due[walker]);
        }
        row.change(0);
        row.change(2);
        Rows.minutes(row, 0, 0);
        // THE ROW is 1 0 3 2 4: 0 has heard nothing twice and TURNS, 3 is LOST with QUIET 0 (it heard
        // one that sings); 2 heard nothing twice, 1 is DEAF, 4 is the last one.
        dueWalker(row, 0, new int[] {1, 0, 0, 1, 2});
        dueWalker(row, 1, new int[] {2, 1, 2, 0, 0});
        dueWalker(row, 2, new int[] {3, 2, 2, 2, 4});
        dueWalker(row, 3, new int[] {4, 3, 0, -9, -9});
        dueWalker(row, 4, new int[] {5, 0, 0, 3, -9});
    }

    private static void dueWalker(GorgeRow row, int walker, int[] due) {
        for (int what = 0; what < due.length; what++) {
            Report.due("walker(" + walker + ", " + what + ")", row.walker(walker, what), due[what]);
        }
    }
}
