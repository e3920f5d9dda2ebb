/** Promises 25 and 26: each sentence that names a boundary. */
final class SlotsBounds {
    private SlotsBounds() {
    }

    static void run() {
        keep();
        again();
    }

    private static void keep() {
        Report.test("bounds 25 keep: SLOTS 0 and 1", SlotsBounds::takenSlots);
        Report.test("bounds 25 keep: UNKNOWN, below 0 and above 1", SlotsBounds::unknownKeep);
        Report.test("bounds 25 keep: PLACE, from 0 to LIGHT", SlotsBounds::keepAtEachPlace);
        Report.test("bounds 25 keep: nobody walks", SlotsBounds::keepNobody);
        Report.test("bounds 25 keep: both are full, the one is kept over", SlotsBounds::keepOver);
        Report.test("bounds 25 keep: the other one stays", SlotsBounds::keepStays);
        Report.test("bounds 25 keep: it is no ACT, and none is forgotten by it", SlotsBounds::keepIsNoAct);
    }

    private static void again() {
        Report.test("bounds 26 again: UNKNOWN, below 0 and above 1", SlotsBounds::unknownAgain);
        Report.test("bounds 26 again: LATE, none were kept", SlotsBounds::lateAgain);
        Report.test("bounds 26 again: LATE, only the other one was kept", SlotsBounds::lateOtherSlot);
        Report.test("bounds 26 again: LATE, THE GORGE is made anew", SlotsBounds::lateAgainBehindGorge);
        Report.test("bounds 26 again: PLACE, from 0 to LIGHT", SlotsBounds::againAtEachPlace);
        Report.test("bounds 26 again: from LIGHT back, and to LIGHT", SlotsBounds::againFromAndToLight);
        Report.test("bounds 26 again: all of THE ROW, and one", SlotsBounds::againAllAndOne);
        Report.test("bounds 26 again: QUIET, from 0 to 9", SlotsBounds::againQuiets);
        Report.test("bounds 26 again: a LOST one's QUIET, too", SlotsBounds::againLostQuiet);
        Report.test("bounds 26 again: no ACTS, of fourteen", SlotsBounds::againWithoutActs);
        Report.test("bounds 26 again: it can be gone on from once more", SlotsBounds::againOnceMore);
        Report.test("bounds 26 again: a refused GORGE leaves what was kept", SlotsBounds::againBehindRefusedGorge);
        Report.test("bounds 26 again: only what was kept changes", SlotsBounds::againOnlyKept);
    }

    private static void dueWalk(GorgeRow row, String due) {
        Report.holds("not '" + due + "' but '" + Rows.walk(row) + "'", Rows.walk(row).equals(due + " "));
    }

    // ---- promise 25

    private static void takenSlots() {
        for (int slot = 0; slot <= 1; slot++) {
            GorgeRow row = Bounds.halfWay();
            Report.due("keep(" + slot + ")", row.keep(slot), 4);
            Report.due("again(" + slot + ")", row.again(slot), 4);
        }
    }

    private static void unknownKeep() {
        for (int slot : Bounds.outside(0, 1)) {
            Bounds.refused("keep(" + slot + ")", row -> row.keep(slot), GorgeRow.UNKNOWN);
        }
    }

    private static void keepAtEachPlace() {
        GorgeRow row = Rows.of("G99W50W50");
        for (int place = 0; place <= 9; place++) {
            Report.due("keep(0)", row.keep(0), place);
            Report.due("keep(1)", row.keep(1), place);
            row.minute(2);
        }
        Report.due("keep(0), once more at LIGHT", row.keep(0), 9);
    }

    private static void keepNobody() {
        GorgeRow row = new GorgeRow();
        Report.due("keep(0)", row.keep(0), 0);
        row.minute(0);
        Report.due("keep(1)", row.keep(1), 1);
        Report.due("again(0)", row.again(0), 0);
        Report.due("about(10)", row.about(10), 0);
        Report.due("again(1)", row.again(1), 1);
        Report.due("about(10)", row.about(10), 1);
    }

    private static void keepOver() {
        for (int slot = 0; slot <= 1; slot++) {
            GorgeRow row = Bounds.full();
            row.minute(31);
            String walk = Rows.walk(row);
            Report.due("keep(" + slot + "), full", row.keep(slot), 7);
            row.minute(0);
            Report.due("again(" + slot + ")", row.again(slot), 7);
            Report.holds("the later one: " + walk, walk.equals(Rows.walk(row)));
        }
    }

    private static void keepStays() {
        GorgeRow row = Bounds.full();
        GorgeRow other = Bounds.full();
        row.minute(31);
        row.keep(0);
        Report.due("again(1)", row.again(1), other.again(1));
        Report.holds("as it was kept", Rows.walk(row).equals(Rows.walk(other)));
        GorgeRow third = Bounds.full();
        third.minute(31);
        third.keep(1);
        Report.due("again(0)", third.again(0), other.again(0));
        Report.holds("as it was kept", Rows.walk(third).equals(Rows.walk(other)));
    }

    private static void keepIsNoAct() {
        GorgeRow row = Bounds.full();
        GorgeRow other = Bounds.full();
        row.keep(0);
        row.keep(1);
        for (int left = 13; left >= 0; left--) {
            Report.due("undo()", row.undo(), left);
            other.undo();
            Report.holds("as it was", Rows.walk(row).equals(Rows.walk(other)));
        }
    }

    // ---- promise 26

    private static void unknownAgain() {
        for (int slot : Bounds.outside(0, 1)) {
            Bounds.refused("again(" + slot + ")", row -> row.again(slot), GorgeRow.UNKNOWN);
        }
    }

    private static void lateAgain() {
        Bounds.refused("again(0)", row -> row.again(0), GorgeRow.LATE, GorgeRow::new);
        Bounds.refused("again(1)", row -> row.again(1), GorgeRow.LATE, GorgeRow::new);
    }

    private static void lateOtherSlot() {
        Bounds.refused("again(0)", row -> row.again(0), GorgeRow.LATE, Bounds::halfWay);
        GorgeRow row = new GorgeRow();
        row.keep(0);
        Report.due("again(1)", row.again(1), GorgeRow.LATE);
        Report.due("again(0)", row.again(0), 0);
    }

    private static void lateAgainBehindGorge() {
        for (int slot = 0; slot <= 1; slot++) {
            int kept = slot;
            Bounds.refused("again(" + slot + ")", row -> row.again(kept), GorgeRow.LATE, () -> {
                GorgeRow row = Rows.of("G99W50W50");
                row.keep(kept);
                row.gorge();
                return row;
            });
        }
    }

    private static void againAtEachPlace() {
        for (int light = 1; light <= 9; light++) {
            GorgeRow row = Rows.of("G" + light + "9W50W50");
            for (int place = 0; place <= light; place++) {
                row.keep(place % 2);
                row.minute(2);
                Report.due("again(" + place % 2 + ")", row.again(place % 2), place);
                Report.due("about(3)", row.about(3), place);
                Report.due("about(10)", row.about(10), place == light ? 1 : 0);
                row.minute(2);
            }
        }
    }

    private static void againFromAndToLight() {
        GorgeRow row = Bounds.atLight();
        Report.due("again(0)", row.again(0), 0);
        dueWalk(row, "at 0 row 1234 lost 0 quiet 0 0 0 0");
        Report.due("minute(15)", row.minute(15), 0);
        Report.due("minute(15)", row.minute(15), 0);
        Report.due("keep(0)", row.keep(0), 2);
        Report.due("again(1)", row.again(1), 1);
        dueWalk(row, "at 1 row 1234 lost 0 quiet 1 1 1 0");
        Report.due("again(0)", row.again(0), 2);
        Report.due("minute(15)", row.minute(15), GorgeRow.LATE);
        Report.due("rest()", row.rest(), GorgeRow.LATE);
    }

    private static void againAllAndOne() {
        GorgeRow row = Rows.of("G99W00W00W00W00W00");
        row.keep(0);
        Rows.minutes(row, 0, 0, 0);
        row.keep(1);
        dueWalk(row, "at 3 row 1 lost 30 quiet 0 1 1 1 0");
        Report.due("again(0)", row.again(0), 0);
        dueWalk(row, "at 0 row 12345 lost 0 quiet 0 0 0 0 0");
        Report.due("again(1)", row.again(1), 3);
        dueWalk(row, "at 3 row 1 lost 30 quiet 0 1 1 1 0");
    }

    /** Of each WALKER but the one that is the last one: that is 4, then 3. */
    private static void againQuiets() {
        againQuiets(Rows.of("G99W01W01W01W01W01"), "12345", " %d %d %d %d 0");
        GorgeRow changed = Rows.of("G99W01W01W01W01W01");
        changed.change(3);
        againQuiets(changed, "12354", " %d %d %d 0 %d");
    }

    private static void againQuiets(GorgeRow row, String figures, String quiets) {
        for (int k = 0; k <= 9; k++) {
            Integer minutes = k;
            row.keep(k % 2);
            row.rest();
            row.minute(31);
            row.change(0);
            Report.due("again(" + k % 2 + ")", row.again(k % 2), k);
            dueWalk(row, "at " + k + " row " + figures + " lost 0 quiet"
                    + String.format(quiets, minutes, minutes, minutes, minutes));
            row.minute(0);
        }
    }

    private static void againLostQuiet() {
        GorgeRow row = Bounds.halfWay();
        String walk = Rows.walk(row);
        row.keep(0);
        row.again(1);
        Report.holds("nobody is LOST", row.about(5) == 0 && row.walker(1, 2) == 0);
        row.again(0);
        Report.holds("as it was: " + walk, walk.equals(Rows.walk(row)));
        Report.due("walker(1, 2), LOST with a QUIET", row.walker(1, 2), 2);
    }

    private static void againWithoutActs() {
        GorgeRow row = Bounds.full();
        Report.due("about(7)", row.about(7), 14);
        Report.due("again(0)", row.again(0), 0);
        Report.due("about(7)", row.about(7), 0);
        Report.due("undo()", row.undo(), GorgeRow.LATE);
        for (int act = 1; act <= 14; act++) {
            row.rest();
            Report.due("about(7)", row.about(7), act);
        }
    }

    private static void againOnceMore() {
        GorgeRow row = Bounds.full();
        row.again(1);
        String walk = Rows.walk(row);
        for (int time = 0; time < 3; time++) {
            row.minute(0);
            row.change(0);
            row.rest();
            Report.due("again(1)", row.again(1), 6);
            Report.holds("as it was kept", walk.equals(Rows.walk(row)));
        }
    }

    private static void againBehindRefusedGorge() {
        GorgeRow row = Bounds.atLight();
        Report.due("gorge()", row.gorge(), GorgeRow.LATE);
        Report.due("again(0)", row.again(0), 0);
        Report.due("again(1)", row.again(1), 1);
    }

    private static void againOnlyKept() {
        GorgeRow row = Bounds.full();
        row.again(0);
        Report.due("about(8): TOLD stays", row.about(8), 6);
        Report.due("about(9): THE TEXT stays", row.about(9), 32);
        Report.due("letGo(false): TOLD stays", row.letGo(false), Bounds.full().letGo(false));
        Report.due("seed(0): THE SEED stays", row.seed(0), Long.MIN_VALUE);
        for (int walker = 0; walker <= 4; walker++) {
            Report.due("walker(" + walker + ", 0): NERVE stays", row.walker(walker, 0), walker == 4 ? 4 : 5);
        }
    }
}
