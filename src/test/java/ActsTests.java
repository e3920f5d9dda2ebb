/** Promises 8 to 11: MINUTES, CHANGED, RESTS, and how they are undone. */
final class ActsTests {
    private ActsTests() {
    }

    static void run() {
        Report.test("promise 8: minute, by who treads", ActsTests::treading);
        Report.test("promise 8: minute, one that sings", ActsTests::singing);
        Report.test("promise 8: minute, one that carries", ActsTests::carrying);
        Report.test("promise 8: minute, one that is deaf", ActsTests::deaf);
        Report.test("promise 8: minute, at water", ActsTests::water);
        Report.test("promise 8: minute, by nerve", ActsTests::nerve);
        Report.test("promise 8: minute, from the first one on", ActsTests::fromTheFirst);
        Report.test("promise 8: minute, quiet of the last one and of a lost one", ActsTests::quietThatStays);
        Report.test("promise 9: change", ActsTests::change);
        Report.test("promise 10: rest", ActsTests::rest);
        Report.test("promise 11: undo", ActsTests::undo);
        Report.test("promise 11: undo, fourteen acts at most", ActsTests::undoForgotten);
    }

    private static void treading() {
        GorgeRow row = Rows.of("G99W20W20W20");
        Report.due("minute(0)", row.minute(0), 0);
        dueQuiets(row, 1, 1, 0);
        Report.due("minute(4)", row.minute(4), 0);
        dueQuiets(row, 2, 0, 0);
        Report.due("minute(2): 0 hears the one behind it", row.minute(2), 0);
        dueQuiets(row, 0, 1, 0);
        Report.due("minute(1): nobody hears the first one", row.minute(1), 0);
        dueQuiets(row, 1, 2, 0);
        Report.due("minute(7)", row.minute(7), 0);
        dueQuiets(row, 0, 0, 0);
        Report.due("about(3)", row.about(3), 5);
        row.change(0);
        Report.due("minute(1): the one behind is 0 now", row.minute(1), 0);
        dueQuiets(row, 1, 0, 0);
    }

    private static void singing() {
        GorgeRow row = Rows.of("G99W00W02W20");
        // 0 hears the one that sings; that one hears nothing itself.
        Report.due("minute(0)", row.minute(0), 4);
        Report.due("about(6)", row.about(6), 12);
        Report.due("minute(0)", row.minute(0), 0);
        dueQuiets(row, 0, 0, 0);
    }

    private static void carrying() {
        GorgeRow row = Rows.of("G99W50W53W50");
        row.minute(2);
        dueQuiets(row, 0, 1, 0);
        row.minute(2);
        dueQuiets(row, 1, 2, 0);
        row.minute(2);
        dueQuiets(row, 0, 3, 0);
        row.minute(4);
        dueQuiets(row, 1, 0, 0);
        row.minute(0);
        dueQuiets(row, 2, 1, 0);
    }

    private static void deaf() {
        GorgeRow row = Rows.of("G92W01W02W20");
        for (int minute = 1; minute <= 9; minute++) {
            Report.due("minute(4)", row.minute(4), 0);
            dueQuiets(row, minute, 0, 0);
        }
        Report.due("about(6): a DEAF one never TURNS", row.about(6), 123);
        Report.due("about(10)", row.about(10), 1);
    }

    private static void water() {
        GorgeRow row = Rows.of("G52W50W51W33W53W00");
        row.minute(0);
        row.minute(0);
        dueQuiets(row, 2, 2, 2, 2, 0);
        row.minute(0);
        dueQuiets(row, 0, 3, 0, 0, 0);
        row.minute(0);
        dueQuiets(row, 1, 4, 1, 1, 0);
        // WATER at an odd PLACE: one that carries is heard there all the same.
        GorgeRow odd = Rows.of("G51W53W53W53");
        odd.minute(0);
        dueQuiets(odd, 1, 1, 0);
        odd.minute(7);
        dueQuiets(odd, 0, 0, 0);
        odd.minute(0);
        dueQuiets(odd, 1, 1, 0);
        GorgeRow atOnce = Rows.of("G50W00W00");
        Report.due("minute(0), WATER at PLACE 0", atOnce.minute(0), 0);
        Report.due("minute(0), behind it", atOnce.minute(0), 2);
        GorgeRow none = Rows.of("G55W50W50");
        Rows.minutes(none, 0, 0, 0, 0, 0);
        dueQuiets(none, 5, 0);
    }

    private static void nerve() {
        for (int nerve = 0; nerve <= 5; nerve++) {
            GorgeRow row = Rows.of("G99W" + nerve + "0W00");
            for (int minute = 0; minute < nerve; minute++) {
                Report.due("minute(0), NERVE " + nerve, row.minute(0), 0);
                dueQuiets(row, minute + 1, 0);
            }
            Report.due("minute(0), it TURNS, NERVE " + nerve, row.minute(0), 2);
            dueQuiets(row, 0, 0);
            Report.due("about(6)", row.about(6), 1);
            Report.due("about(5)", row.about(5), 2);
            Report.due("walker(0, 4)", row.walker(0, 4), -9);
        }
    }

    private static void fromTheFirst() {
        GorgeRow row = Rows.of("G99W00W00W00W00W00");
        Report.due("minute(0): each other one", row.minute(0), 2 + 8);
        Report.due("about(6)", row.about(6), 135);
        Report.due("minute(0)", row.minute(0), 4);
        Report.due("minute(0)", row.minute(0), 16);
        Report.due("minute(0): alone", row.minute(0), 0);
        Report.due("about(6)", row.about(6), 1);
        Report.due("about(5)", row.about(5), 30);
        // The one that would TURN is LOST itself ahead of it.
        GorgeRow lost = Rows.of("G99W00W00W50");
        Report.due("minute(0)", lost.minute(0), 2);
        Report.due("about(6)", lost.about(6), 13);
        // The last one by then: 1 loses 2, and no one is behind 1 any more.
        GorgeRow last = Rows.of("G99W50W00W00");
        Report.due("minute(0)", last.minute(0), 4);
        Report.due("minute(0)", last.minute(0), 0);
        Report.due("about(6)", last.about(6), 12);
        // By THE ROW, not by number.
        GorgeRow turned = Rows.of("G99W00W50W00");
        turned.change(1);
        Report.due("minute(0)", turned.minute(0), 4);
        Report.due("about(6)", turned.about(6), 12);
    }

    private static void quietThatStays() {
        GorgeRow row = Rows.of("G99W30W30W30W30");
        Rows.minutes(row, 0, 0);
        dueQuiets(row, 2, 2, 2, 0);
        row.change(0);
        dueQuiets(row, 0, 0, 2, 0);
        // THE ROW is 1 0 2 3; 2 and 3 tread.
        Rows.minutes(row, 4, 4);
        dueQuiets(row, 0, 2, 0, 0);
        Report.due("about(6): 2 has TURNED", row.about(6), 213);
        Rows.minutes(row, 4, 4);
        dueQuiets(row, 0, 0, 0, 0);
        Report.due("about(6): 1 has TURNED", row.about(6), 23);

        // A LOST one keeps what it had in the MINUTE in which it was LOST.
        GorgeRow lost = Rows.of("G99W10W50W00");
        lost.minute(0);
        Report.due("minute(0)", lost.minute(0), 2);
        dueQuiets(lost, 0, 2, 0);
        Rows.minutes(lost, 4, 0);
        dueQuiets(lost, 1, 2, 0);
        lost.rest();
        dueQuiets(lost, 0, 2, 0);
    }

    private static void change() {
        GorgeRow row = Rows.of("G99W50W51W52W53W50");
        Rows.minutes(row, 0, 0);
        // 1 is DEAF; 1 hears not the one that sings; 3 hears not the last one.
        dueQuiets(row, 2, 2, 2, 2, 0);
        Report.due("change(1)", row.change(1), 13245);
        dueQuiets(row, 2, 0, 0, 2, 0);
        Report.due("change(0)", row.change(0), 31245);
        dueQuiets(row, 0, 0, 0, 2, 0);
        Report.due("change(3)", row.change(3), 31254);
        dueQuiets(row, 0, 0, 0, 0, 0);
        Report.due("change(3)", row.change(3), 31245);
        Report.due("change(2)", row.change(2), 31425);
        Report.due("about(6)", row.about(6), 31425);
        Report.due("about(7)", row.about(7), 7);
        Report.due("about(3): PLACE stays", row.about(3), 2);
        Report.due("walker(3, 3)", row.walker(3, 3), 2);
        Report.due("walker(3, 4)", row.walker(3, 4), 1);
    }

    private static void rest() {
        GorgeRow row = Rows.of("G59W50W50W51W00W50");
        Report.due("rest(), nobody had a QUIET", row.rest(), 0);
        row.minute(4 + 16);
        dueQuiets(row, 1, 0, 1, 0, 0);
        Report.due("rest()", row.rest(), 2);
        dueQuiets(row, 0, 0, 0, 0, 0);
        row.minute(0);
        Report.due("about(6)", row.about(6), 1234);
        Report.due("rest(), the one that TURNED has QUIET 0", row.rest(), 3);
        Report.due("rest(), again", row.rest(), 0);
        Report.due("about(7)", row.about(7), 6);
        Report.due("about(3): PLACE stays", row.about(3), 2);
        Rows.minutes(row, 15, 15, 15);
        Report.due("rest() at LIGHT", row.rest(), -3);
        Report.due("about(7)", row.about(7), 9);
        // Of one that is LOST the QUIET neither counts nor goes.
        GorgeRow lost = Rows.of("G99W00W50W00");
        lost.minute(0);
        Report.due("rest(), 1 is LOST", lost.rest(), 0);
        Report.due("walker(1, 2)", lost.walker(1, 2), 1);
        Report.due("rest() of nobody", new GorgeRow().rest(), 0);
    }

    private static void undo() {
        GorgeRow row = Rows.of("G99W10W10W10W10");
        String[] told = new String[6];
        told[0] = tellWithoutActs(row);
        row.minute(0);
        told[1] = tellWithoutActs(row);
        row.change(2);
        told[2] = tellWithoutActs(row);
        row.minute(0);
        told[3] = tellWithoutActs(row);
        row.rest();
        told[4] = tellWithoutActs(row);
        row.minute(1);
        row.keep(0);
        row.tell(4, true);
        row.seed(12);
        for (int left = 4; left >= 0; left--) {
            Report.due("undo()", row.undo(), left);
            Report.due("about(7)", row.about(7), left);
            Report.holds("it is as it was behind act " + left, told[left].equals(tellWithoutActs(row)));
        }
        Report.due("undo(), none", row.undo(), -3);
        Report.holds("nothing changed", told[0].equals(tellWithoutActs(row)));
        Report.due("about(8): TOLD is not undone", row.about(8), 1);
        Report.due("seed(0): THE SEED is not undone", row.seed(0), 12);
        Report.due("again(0): what was kept is not undone", row.again(0), 3);
        // What brought them to LIGHT can be undone there.
        GorgeRow out = Rows.of("G19W00W00");
        out.minute(0);
        Report.due("undo() at LIGHT", out.undo(), 0);
        Report.due("about(6)", out.about(6), 12);
        Report.due("about(10)", out.about(10), 0);
        Report.due("minute(2)", out.minute(2), 0);
    }

    private static void undoForgotten() {
        GorgeRow row = Rows.of("G99W50W50");
        String[] told = new String[18];
        for (int act = 0; act < 18; act++) {
            told[act] = tellWithoutActs(row);
            if (act < 5 || act > 14) {
                row.minute(0);
            } else {
                row.change(0);
            }
            Report.due("about(7) behind " + act, row.about(7), Math.min(act + 1, 14));
        }
        for (int left = 13; left >= 0; left--) {
            Report.due("undo()", row.undo(), left);
            Report.holds("it is as it was, " + left, told[left + 4].equals(tellWithoutActs(row)));
        }
        // Eighteen ACTS were done, of which the first four are forgotten.
        Report.due("about(3)", row.about(3), 4);
        Report.due("walker(0, 2)", row.walker(0, 2), 4);
        Report.due("about(6)", row.about(6), 12);
        Report.due("undo()", row.undo(), -3);
        Report.due("rest()", row.rest(), 1);
        Report.due("undo()", row.undo(), 0);
        Report.due("walker(0, 2)", row.walker(0, 2), 4);
    }

    /** What undoing brings back: all of them but how many ACTS, what is TOLD, THE SEED. */
    private static String tellWithoutActs(GorgeRow row) {
        StringBuilder told = new StringBuilder();
        for (int what : new int[] {3, 4, 5, 6, 10}) {
            told.append(row.about(what)).append(' ');
        }
        for (int walker = 0; walker < row.about(0); walker++) {
            for (int what = 2; what <= 4; what++) {
                told.append(row.walker(walker, what)).append(' ');
            }
        }
        return told.toString();
    }

    private static void dueQuiets(GorgeRow row, int... due) {
        for (int walker = 0; walker < due.length; walker++) {
            Report.due("walker(" + walker + ", 2) at PLACE " + row.about(3), row.walker(walker, 2), due[walker]);
        }
    }
}
