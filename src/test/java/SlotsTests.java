/** Promises 25 and 26: kept and gone on from. */
final class SlotsTests {
    private SlotsTests() {
    }

    static void run() {
        Report.test("promise 25: keep", SlotsTests::keep);
        Report.test("promise 26: again", SlotsTests::again);
        Report.test("promise 26: again, quiet and lost ones", SlotsTests::quietAndLost);
        Report.test("promise 26: again, five and long quiet", SlotsTests::fiveAndLongQuiet);
    }

    private static void keep() {
        GorgeRow row = Rows.of("G39W20W10W00");
        Report.due("keep(0)", row.keep(0), 0);
        row.minute(6);
        String told = Rows.told(row);
        Report.due("keep(1)", row.keep(1), 1);
        Report.holds("nothing else changed", told.equals(Rows.told(row)));
        Report.due("about(7): ACTS stay", row.about(7), 1);
        Report.due("again(0)", row.again(0), 0);
        Report.due("again(1)", row.again(1), 1);
        Rows.minutes(row, 6, 6);
        Report.due("keep(0) at LIGHT, over what was kept", row.keep(0), 3);
        row.undo();
        Report.due("again(0)", row.again(0), 3);
        Report.due("about(10)", row.about(10), 1);
        Report.due("again(1), the other one stays", row.again(1), 1);
    }

    private static void again() {
        GorgeRow row = Rows.of("G99W10W10W10");
        row.minute(4);
        row.change(1);
        row.keep(1);
        String quiets = quiets(row);
        int figures = row.about(6);
        Rows.minutes(row, 0, 0, 0);
        row.tell(3, true);
        row.seed(41);
        Report.due("about(6)", row.about(6), 1);
        for (int time = 0; time < 2; time++) {
            Report.due("again(1)", row.again(1), 1);
            Report.due("about(6)", row.about(6), figures);
            Report.due("about(5)", row.about(5), 0);
            Report.due("about(3)", row.about(3), 1);
            Report.holds("QUIET is as it was kept", quiets.equals(quiets(row)));
            Report.due("about(7): no ACTS", row.about(7), 0);
            Report.due("undo(): no ACTS", row.undo(), -3);
            Report.due("minute(0)", row.minute(0), 4);
            Report.due("undo()", row.undo(), 0);
            row.minute(0);
        }
        Report.due("about(8): TOLD stays", row.about(8), 1);
        Report.due("seed(0): THE SEED stays", row.seed(0), 41);
        GorgeRow other = Rows.of("G99W10W10W10");
        Report.due("again(1): of another object none were kept", other.again(1), -3);
    }

    private static void quietAndLost() {
        GorgeRow row = Rows.of("G99W10W50W51W00");
        Rows.minutes(row, 0, 0, 0);
        Report.due("about(5)", row.about(5), 2);
        String quiets = quiets(row);
        Report.holds("QUIET of four, 1 is LOST", quiets.equals("1 2 3 0 "));
        row.keep(0);
        row.rest();
        Rows.minutes(row, 0, 0, 0);
        Report.due("about(6)", row.about(6), 14);
        Report.due("again(0)", row.again(0), 3);
        Report.due("about(5)", row.about(5), 2);
        Report.due("about(6)", row.about(6), 134);
        Report.holds("QUIET of all is as it was kept", quiets.equals(quiets(row)));
        // What is LOST now is in THE ROW again, if it was when they were kept.
        row.gorge();
        row.keep(1);
        Rows.minutes(row, 0, 0, 0);
        row.again(1);
        Report.due("about(6)", row.about(6), 1234);
        Report.due("about(5)", row.about(5), 0);
        row.minute(0);
        row.keep(0);
        row.gorge();
        Report.due("again(0): what was kept is gone", row.again(0), -3);
        Report.due("again(1): what was kept is gone", row.again(1), -3);
    }

    private static void fiveAndLongQuiet() {
        GorgeRow row = Rows.of("G99W51W51W51W51W01");
        row.change(3);
        for (int minutes = 0; minutes <= 9; minutes++) {
            String due = minutes + " " + minutes + " " + minutes + " 0 " + minutes + " ";
            Report.holds("QUIET behind " + minutes, due.equals(quiets(row)));
            row.keep(0);
            row.rest();
            row.again(0);
            Report.holds("QUIET of " + minutes + ", gone on", due.equals(quiets(row)));
            Report.due("about(6), gone on", row.about(6), 12354);
            row.minute(0);
        }
        // One of five is LOST behind what was kept with a QUIET.
        GorgeRow five = Rows.of("G99W10W51W50W50W50");
        five.minute(0);
        five.keep(0);
        Report.due("again(0)", five.again(0), 1);
        Report.due("minute(0)", five.minute(0), 2);
        Report.due("about(6)", five.about(6), 1345);
        Report.due("about(4)", five.about(4), 29);
        Report.due("undo()", five.undo(), 0);
        Report.due("minute(0)", five.minute(0), 2);
        Report.due("about(6)", five.about(6), 1345);
    }

    private static String quiets(GorgeRow row) {
        StringBuilder quiets = new StringBuilder();
        for (int walker = 0; walker < row.about(0); walker++) {
            quiets.append(row.walker(walker, 2)).append(' ');
        }
        return quiets.toString();
    }
}
