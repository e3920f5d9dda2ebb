/** Promises 8 to 11: each sentence that names a boundary. */
final class ActsBounds {
    private static final int MOST_ACTS = 14;

    private ActsBounds() {
    }

    static void run() {
        minute();
        turning();
        change();
        rest();
        undo();
    }

    private static void minute() {
        Report.test("bounds 8 minute: BAD, bits of WALKERS that there are not", ActsBounds::badTreads);
        Report.test("bounds 8 minute: BAD changes nothing", ActsBounds::badTreadsChangeNothing);
        Report.test("bounds 8 minute: none treads, all tread", ActsBounds::leastAndMostTreads);
        Report.test("bounds 8 minute: bits of a LOST one are taken", ActsBounds::treadsOfLost);
        Report.test("bounds 8 minute: at a PLACE less than LIGHT, for each LIGHT", ActsBounds::minutesTillLight);
        Report.test("bounds 8 minute: LATE, they are at LIGHT", ActsBounds::lateMinute);
        Report.test("bounds 8 minute: BAD is told ahead of LATE", ActsBounds::badMinuteAheadOfLate);
        Report.test("bounds 8 minute: nobody walks", ActsBounds::minuteOfNobody);
        Report.test("bounds 8 minute: the only one neither HEARS nor TURNS", ActsBounds::minuteOfOne);
        Report.test("bounds 8 minute: all but the last one HEAR", ActsBounds::allButTheLastHear);
        Report.test("bounds 8 minute: WATER at each PLACE", ActsBounds::waterAtEachPlace);
        Report.test("bounds 8 minute: WATER at LIGHT or farther is no PLACE", ActsBounds::waterBehindLight);
        Report.test("bounds 8 minute: at WATER all hear but a DEAF one", ActsBounds::waterAndKinds);
        Report.test("bounds 8 minute: CARRYING, even PLACES alone", ActsBounds::carryingAtEachPlace);
        Report.test("bounds 8 minute: CARRYING and WATER at an odd PLACE", ActsBounds::carryingAtWater);
        Report.test("bounds 8 minute: SINGING, at each PLACE", ActsBounds::singingAtEachPlace);
        Report.test("bounds 8 minute: a DEAF one's QUIET goes to 9", ActsBounds::deafQuiet);
        Report.test("bounds 8 minute: for the last one QUIET stays as it is", ActsBounds::lastQuiet);
    }

    private static void turning() {
        Report.test("bounds 8 minute: QUIET as much as NERVE, and more, from 0 to 5", ActsBounds::quietAndNerve);
        Report.test("bounds 8 minute: who TURNS has QUIET 0 and bears as long again", ActsBounds::turnsAgain);
        Report.test("bounds 8 minute: a DEAF one does not TURN", ActsBounds::deafDoesNotTurn);
        Report.test("bounds 8 minute: the last one by then does not TURN", ActsBounds::lastByThen);
        Report.test("bounds 8 minute: who is LOST ahead of it does not TURN", ActsBounds::lostDoesNotTurn);
        Report.test("bounds 8 minute: each other one of two to five is LOST", ActsBounds::eachOtherIsLost);
        Report.test("bounds 8 minute: till one is left", ActsBounds::tillOneIsLeft);
        Report.test("bounds 8 minute: a LOST one keeps its QUIET", ActsBounds::lostQuiet);
    }

    private static void change() {
        Report.test("bounds 9 change: BAD, below 0 and above 3", ActsBounds::badChange);
        Report.test("bounds 9 change: the first two and the last two of five", ActsBounds::firstAndLastChange);
        Report.test("bounds 9 change: LATE, there are not so many, from none to five", ActsBounds::lateChangeOfEach);
        Report.test("bounds 9 change: LATE, a LOST one does not count", ActsBounds::lateChangeByLost);
        Report.test("bounds 9 change: LATE, they are at LIGHT", ActsBounds::lateChangeAtLight);
        Report.test("bounds 9 change: taken at the last PLACE ahead of LIGHT", ActsBounds::changeAheadOfLight);
        Report.test("bounds 9 change: BAD is told ahead of LATE", ActsBounds::badChangeAheadOfLate);
        Report.test("bounds 9 change: QUIET of both is 0, of the others it stays", ActsBounds::changeQuiets);
    }

    private static void rest() {
        Report.test("bounds 10 rest: LATE, they are at LIGHT", ActsBounds::lateRest);
        Report.test("bounds 10 rest: taken at each PLACE ahead of LIGHT", ActsBounds::restTillLight);
        Report.test("bounds 10 rest: nobody walks", ActsBounds::restOfNobody);
        Report.test("bounds 10 rest: none had a QUIET, and it is an ACT", ActsBounds::restOfNone);
        Report.test("bounds 10 rest: from one to four had a QUIET", ActsBounds::restOfEach);
        Report.test("bounds 10 rest: a QUIET of 1 and one of 8 count alike", ActsBounds::restOfLongQuiet);
        Report.test("bounds 10 rest: a LOST one's QUIET neither counts nor goes", ActsBounds::restOfLost);
    }

    private static void undo() {
        Report.test("bounds 11 undo: LATE, nothing there yet", ActsBounds::lateUndo);
        Report.test("bounds 11 undo: LATE, all is undone", ActsBounds::lateUndoBehindAll);
        Report.test("bounds 11 undo: LATE, THE GORGE is made anew", ActsBounds::lateUndoBehindGorge);
        Report.test("bounds 11 undo: LATE, one has gone on", ActsBounds::lateUndoBehindAgain);
        Report.test("bounds 11 undo: LATE, what was refused is no ACT", ActsBounds::lateUndoBehindRefused);
        Report.test("bounds 11 undo: one ACT of each sort", ActsBounds::undoEach);
        Report.test("bounds 11 undo: fourteen are left by none", ActsBounds::undoFourteen);
        Report.test("bounds 11 undo: of fifteen the first one is forgotten", () -> undoOf(MOST_ACTS + 1));
        Report.test("bounds 11 undo: of 28 fourteen are forgotten", () -> undoOf(2 * MOST_ACTS));
        Report.test("bounds 11 undo: of 29 fifteen are forgotten", () -> undoOf(2 * MOST_ACTS + 1));
        Report.test("bounds 11 undo: of 100 all but fourteen are forgotten", ActsBounds::undoOfHundred);
        Report.test("bounds 11 undo: full, undone, full again", ActsBounds::undoAndFullAgain);
        Report.test("bounds 11 undo: from LIGHT back to PLACE 0", ActsBounds::undoFromLight);
        Report.test("bounds 11 undo: nothing but ACTS is undone", ActsBounds::undoOnlyActs);
    }

    private static void dueWalk(GorgeRow row, String due) {
        Report.holds("not '" + due + "' but '" + Rows.walk(row) + "'", Rows.walk(row).equals(due + " "));
    }

    /** A GORGE of so many alike. */
    private static GorgeRow alike(String head, int walkers, String part) {
        StringBuilder text = new StringBuilder(head);
        for (int k = 0; k < walkers; k++) {
            text.append(part);
        }
        return Rows.of(text.toString());
    }

    // ---- promise 8

    private static void badTreads() {
        for (int walkers = 0; walkers <= 5; walkers++) {
            GorgeRow row = alike("G99", walkers, "W50");
            for (int treads : Bounds.outside(0, (1 << walkers) - 1)) {
                Report.due("minute(" + treads + ") of " + walkers, row.minute(treads), GorgeRow.BAD);
            }
            Report.due("minute, all of " + walkers, row.minute((1 << walkers) - 1), 0);
            Report.due("about(3)", row.about(3), 1);
        }
    }

    private static void badTreadsChangeNothing() {
        for (int treads : Bounds.outside(0, 31)) {
            Bounds.refused("minute(" + treads + ")", row -> row.minute(treads), GorgeRow.BAD);
        }
        Bounds.refused("minute(1) of nobody", row -> row.minute(1), GorgeRow.BAD, GorgeRow::new);
        Bounds.refused("minute(16) of four", row -> row.minute(16), GorgeRow.BAD, Bounds::atLight);
    }

    private static void leastAndMostTreads() {
        GorgeRow row = alike("G99", 5, "W50");
        Report.due("minute(0)", row.minute(0), 0);
        dueWalk(row, "at 1 row 12345 lost 0 quiet 1 1 1 1 0");
        Report.due("minute(31)", row.minute(31), 0);
        dueWalk(row, "at 2 row 12345 lost 0 quiet 0 0 0 0 0");
    }

    private static void treadsOfLost() {
        GorgeRow row = alike("G99", 5, "W00");
        Rows.minutes(row, 0, 0, 0);
        dueWalk(row, "at 3 row 1 lost 30 quiet 0 1 1 1 0");
        Report.due("minute(31)", row.minute(31), 0);
        Report.due("minute(16)", row.minute(16), 0);
        Report.due("minute(32)", row.minute(32), GorgeRow.BAD);
    }

    private static void minutesTillLight() {
        for (int light = 1; light <= 9; light++) {
            GorgeRow row = Rows.of("G" + light + "9W50W50");
            for (int place = 0; place < light; place++) {
                Report.due("minute(2) at " + place + " of " + light, row.minute(2), 0);
                Report.due("about(3)", row.about(3), place + 1);
            }
            Report.due("minute(2) at LIGHT " + light, row.minute(2), GorgeRow.LATE);
            Report.due("about(3)", row.about(3), light);
            Report.due("about(7)", row.about(7), light);
        }
    }

    private static void lateMinute() {
        for (int treads : new int[] {0, 15}) {
            Bounds.refused("minute(" + treads + ")", row -> row.minute(treads), GorgeRow.LATE, Bounds::atLight);
        }
        Bounds.refused("minute(0) of nobody", row -> row.minute(0), GorgeRow.LATE, () -> {
            GorgeRow row = new GorgeRow();
            row.minute(0);
            return row;
        });
    }

    private static void badMinuteAheadOfLate() {
        GorgeRow row = Bounds.atLight();
        Report.due("minute(-1)", row.minute(-1), GorgeRow.BAD);
        Report.due("minute(16)", row.minute(16), GorgeRow.BAD);
        Report.due("minute(15)", row.minute(15), GorgeRow.LATE);
    }

    private static void minuteOfNobody() {
        GorgeRow row = Rows.of("G20");
        Report.due("minute(0)", row.minute(0), 0);
        Report.due("minute(0)", row.minute(0), 0);
        dueWalk(row, "at 2 row 0 lost 0 quiet");
        Report.due("about(7)", row.about(7), 2);
    }

    private static void minuteOfOne() {
        for (int kind = 0; kind <= 3; kind++) {
            GorgeRow row = Rows.of("G90W0" + kind);
            for (int minute = 0; minute < 9; minute++) {
                Report.due("minute, alone", row.minute(minute % 2), 0);
                Report.due("walker(0, 2), alone", row.walker(0, 2), 0);
            }
            dueWalk(row, "at 9 row 1 lost 0 quiet 0");
        }
    }

    private static void allButTheLastHear() {
        for (int behind = 1; behind <= 4; behind++) {
            GorgeRow row = alike("G99", 5, "W50");
            row.minute(0);
            row.minute(1 << behind);
            for (int walker = 0; walker < 4; walker++) {
                int due = walker == behind - 1 ? 0 : 2;
                Report.due("walker(" + walker + ", 2), " + behind + " treads", row.walker(walker, 2), due);
            }
        }
        GorgeRow first = alike("G99", 5, "W50");
        first.minute(1);
        dueWalk(first, "at 1 row 12345 lost 0 quiet 1 1 1 1 0");
    }

    private static void waterAtEachPlace() {
        for (int water = 0; water <= 8; water++) {
            GorgeRow row = Rows.of("G9" + water + "W51W50W50");
            int quiet = 0;
            for (int place = 0; place <= 8; place++) {
                // 2 treads now and then, so that 1 never TURNS.
                row.minute(place % 3 == 2 ? 4 : 0);
                quiet = place == water || place % 3 == 2 ? 0 : quiet + 1;
                Report.due("walker(1, 2) behind " + place + ", WATER " + water, row.walker(1, 2), quiet);
                Report.due("walker(0, 2), DEAF", row.walker(0, 2), place + 1);
            }
        }
    }

    private static void waterBehindLight() {
        for (int light = 1; light <= 9; light++) {
            GorgeRow at = Rows.of("G" + light + light + "W00W50");
            Report.due("minute(0), WATER at LIGHT " + light, at.minute(0), 2);
            GorgeRow last = Rows.of("G" + light + (light - 1) + "W00W50");
            for (int place = 0; place < light; place++) {
                Report.due("minute", last.minute(place == light - 1 ? 0 : 2), 0);
            }
            dueWalk(last, "at " + light + " row 12 lost 0 quiet 0 0");
        }
    }

    private static void waterAndKinds() {
        GorgeRow row = Rows.of("G21W50W51W52W53W50");
        row.minute(0);
        dueWalk(row, "at 1 row 12345 lost 0 quiet 1 1 1 1 0");
        row.minute(0);
        dueWalk(row, "at 2 row 12345 lost 0 quiet 0 2 0 0 0");
    }

    private static void carryingAtEachPlace() {
        GorgeRow row = Rows.of("G99W50W53");
        for (int place = 0; place <= 8; place++) {
            Report.due("minute(2) at " + place, row.minute(2), 0);
            Report.due("walker(0, 2) behind " + place, row.walker(0, 2), place % 2);
        }
        GorgeRow silent = Rows.of("G99W50W53");
        for (int place = 0; place <= 4; place++) {
            silent.minute(0);
            Report.due("walker(0, 2), it does not tread so", silent.walker(0, 2), place + 1);
        }
    }

    private static void carryingAtWater() {
        for (int water = 0; water <= 8; water++) {
            for (int treads = 0; treads <= 2; treads += 2) {
                GorgeRow row = Rows.of("G9" + water + "W50W53");
                for (int place = 0; place < water; place++) {
                    row.minute(2);
                }
                row.minute(treads);
                Report.due("walker(0, 2) behind WATER " + water, row.walker(0, 2), 0);
            }
        }
    }

    private static void singingAtEachPlace() {
        GorgeRow row = Rows.of("G99W00W02");
        for (int place = 0; place <= 8; place++) {
            Report.due("minute at " + place, row.minute(place % 4), 0);
            Report.due("walker(0, 2)", row.walker(0, 2), 0);
        }
    }

    private static void deafQuiet() {
        GorgeRow row = Rows.of("G94W01W02W50");
        for (int place = 0; place <= 8; place++) {
            Report.due("minute(7)", row.minute(7), 0);
            Report.due("walker(0, 2)", row.walker(0, 2), place + 1);
        }
    }

    private static void lastQuiet() {
        for (int kind = 0; kind <= 3; kind++) {
            GorgeRow row = Rows.of("G94W50W52W0" + kind);
            for (int place = 0; place <= 8; place++) {
                row.minute(place % 8 | 4);
                Report.due("walker(2, 2), KIND " + kind, row.walker(2, 2), 0);
            }
        }
    }

    private static void quietAndNerve() {
        for (int nerve = 0; nerve <= 5; nerve++) {
            GorgeRow row = Rows.of("G99W" + nerve + "0W50W50");
            for (int quiet = 1; quiet <= nerve; quiet++) {
                Report.due("minute(4), QUIET " + quiet + " of NERVE " + nerve, row.minute(4), 0);
                Report.due("walker(0, 2)", row.walker(0, 2), quiet);
            }
            Report.due("minute(4), more than NERVE " + nerve, row.minute(4), 2);
            Report.due("walker(0, 2)", row.walker(0, 2), 0);
            Report.due("about(6)", row.about(6), 13);
        }
    }

    private static void turnsAgain() {
        GorgeRow row = Rows.of("G99W20W51W51W51W50");
        for (int minute = 1; minute <= 9; minute++) {
            int due = minute % 3 == 0 ? 1 << minute / 3 : 0;
            Report.due("minute(0), the " + minute + "th", row.minute(0), due);
            Report.due("walker(0, 2)", row.walker(0, 2), minute % 3);
        }
    }

    private static void deafDoesNotTurn() {
        GorgeRow row = Rows.of("G99W01W01W01W01W00");
        for (int minute = 1; minute <= 9; minute++) {
            Report.due("minute(0)", row.minute(0), 0);
        }
        dueWalk(row, "at 9 row 12345 lost 0 quiet 9 9 9 9 0");
    }

    private static void lastByThen() {
        // 1 and 2 would TURN both: 2 is the last one, when it has its turn.
        GorgeRow row = Rows.of("G99W50W50W00W00");
        Report.due("minute(0)", row.minute(0), 8);
        dueWalk(row, "at 1 row 123 lost 8 quiet 1 1 0 0");
        for (int minute = 0; minute < 4; minute++) {
            Report.due("minute(0), 2 is the last one", row.minute(0), 0);
        }
        dueWalk(row, "at 5 row 123 lost 8 quiet 5 5 0 0");
    }

    private static void lostDoesNotTurn() {
        GorgeRow row = Rows.of("G99W00W00W50W50");
        Report.due("minute(0)", row.minute(0), 2);
        dueWalk(row, "at 1 row 134 lost 2 quiet 0 1 1 0");
    }

    private static void eachOtherIsLost() {
        int[] due = {0, 0, 2, 2, 2 + 8, 2 + 8};
        for (int walkers = 0; walkers <= 5; walkers++) {
            GorgeRow row = alike("G99", walkers, "W00");
            Report.due("minute(0) of " + walkers, row.minute(0), due[walkers]);
            Report.due("about(5)", row.about(5), due[walkers]);
        }
    }

    private static void tillOneIsLeft() {
        GorgeRow row = alike("G99", 5, "W00");
        int[] due = {2 + 8, 4, 16, 0, 0, 0, 0, 0, 0};
        for (int lost : due) {
            Report.due("minute(0)", row.minute(0), lost);
        }
        Report.due("about(6)", row.about(6), 1);
    }

    private static void lostQuiet() {
        GorgeRow row = Rows.of("G99W30W50W51W50");
        Rows.minutes(row, 0, 0, 0);
        dueWalk(row, "at 3 row 1234 lost 0 quiet 3 3 3 0");
        Report.due("minute(0)", row.minute(0), 2);
        dueWalk(row, "at 4 row 134 lost 2 quiet 0 4 4 0");
        Rows.minutes(row, 15, 0, 2);
        dueWalk(row, "at 7 row 134 lost 2 quiet 2 4 7 0");
    }

    // ---- promise 9

    private static void badChange() {
        for (int i : Bounds.outside(0, 3)) {
            Bounds.refused("change(" + i + ")", row -> row.change(i), GorgeRow.BAD);
        }
    }

    private static void firstAndLastChange() {
        Report.due("change(0)", alike("G99", 5, "W50").change(0), 21345);
        Report.due("change(1)", alike("G99", 5, "W50").change(1), 13245);
        Report.due("change(2)", alike("G99", 5, "W50").change(2), 12435);
        Report.due("change(3)", alike("G99", 5, "W50").change(3), 12354);
    }

    private static void lateChangeOfEach() {
        for (int walkers = 0; walkers <= 5; walkers++) {
            int many = walkers;
            for (int i = 0; i <= 3; i++) {
                int first = i;
                String call = "change(" + i + ") of " + walkers;
                if (i + 1 < walkers) {
                    GorgeRow row = alike("G99", many, "W50");
                    Report.holds(call + " is taken", row.change(i) > 0);
                    Report.due("about(7)", row.about(7), 1);
                } else {
                    Bounds.refused(call, row -> row.change(first), GorgeRow.LATE, () -> alike("G99", many, "W50"));
                }
            }
        }
    }

    private static void lateChangeByLost() {
        // Of five WALKERS three are left.
        Bounds.refused("change(2), three are left", row -> row.change(2), GorgeRow.LATE, Bounds::halfWay);
        Bounds.refused("change(3), three are left", row -> row.change(3), GorgeRow.LATE, Bounds::halfWay);
        Report.due("change(1), three are left", Bounds.halfWay().change(1), 143);
    }

    private static void lateChangeAtLight() {
        for (int i = 0; i <= 3; i++) {
            int first = i;
            Bounds.refused("change(" + i + ")", row -> row.change(first), GorgeRow.LATE, Bounds::atLight);
        }
    }

    private static void changeAheadOfLight() {
        for (int light = 1; light <= 9; light++) {
            GorgeRow row = Rows.of("G" + light + "9W50W50");
            for (int place = 0; place < light; place++) {
                Report.due("change(0) at " + place, row.change(0), place % 2 == 0 ? 21 : 12);
                row.minute(3);
            }
            Report.due("change(0) at LIGHT", row.change(0), GorgeRow.LATE);
        }
    }

    private static void badChangeAheadOfLate() {
        for (int i : new int[] {-1, 4}) {
            Report.due("change(" + i + ") at LIGHT", Bounds.atLight().change(i), GorgeRow.BAD);
            Report.due("change(" + i + ") of nobody", new GorgeRow().change(i), GorgeRow.BAD);
        }
    }

    private static void changeQuiets() {
        for (int i = 0; i <= 3; i++) {
            GorgeRow row = alike("G99", 5, "W50");
            Rows.minutes(row, 0, 0);
            row.change(i);
            for (int walker = 0; walker <= 4; walker++) {
                int due = walker == i || walker == i + 1 || walker == 4 ? 0 : 2;
                Report.due("walker(" + walker + ", 2) behind change(" + i + ")", row.walker(walker, 2), due);
            }
        }
    }

    // ---- promise 10

    private static void lateRest() {
        Bounds.refused("rest()", GorgeRow::rest, GorgeRow.LATE, Bounds::atLight);
    }

    private static void restTillLight() {
        for (int light = 1; light <= 9; light++) {
            GorgeRow row = Rows.of("G" + light + "9W00W50");
            for (int place = 0; place < light; place++) {
                Report.due("rest() at " + place + " of " + light, row.rest(), 0);
                row.minute(2);
            }
            Report.due("rest() at LIGHT " + light, row.rest(), GorgeRow.LATE);
        }
    }

    private static void restOfNobody() {
        GorgeRow row = new GorgeRow();
        Report.due("rest()", row.rest(), 0);
        Report.due("about(7)", row.about(7), 1);
    }

    private static void restOfNone() {
        GorgeRow row = alike("G99", 5, "W50");
        row.minute(31);
        Report.due("rest()", row.rest(), 0);
        Report.due("about(7)", row.about(7), 2);
        Report.due("undo()", row.undo(), 1);
    }

    private static void restOfEach() {
        for (int walkers = 1; walkers <= 5; walkers++) {
            GorgeRow row = alike("G99", walkers, "W50");
            row.minute(0);
            Report.due("rest() of " + walkers, row.rest(), walkers - 1);
            Report.due("rest(), once more", row.rest(), 0);
        }
    }

    private static void restOfLongQuiet() {
        GorgeRow row = Rows.of("G99W01W50W50");
        Rows.minutes(row, 6, 6, 6, 6, 6, 6, 6, 2);
        dueWalk(row, "at 8 row 123 lost 0 quiet 8 1 0");
        Report.due("rest()", row.rest(), 2);
        dueWalk(row, "at 8 row 123 lost 0 quiet 0 0 0");
    }

    private static void restOfLost() {
        GorgeRow row = Rows.of("G99W00W50W50W50");
        row.minute(0);
        dueWalk(row, "at 1 row 134 lost 2 quiet 0 1 1 0");
        Report.due("rest()", row.rest(), 1);
        dueWalk(row, "at 1 row 134 lost 2 quiet 0 1 0 0");
    }

    // ---- promise 11

    private static void lateUndo() {
        Bounds.refused("undo()", GorgeRow::undo, GorgeRow.LATE, GorgeRow::new);
        Bounds.refused("undo()", GorgeRow::undo, GorgeRow.LATE, () -> alike("G99", 5, "W00"));
    }

    private static void lateUndoBehindAll() {
        GorgeRow row = Bounds.full();
        for (int left = MOST_ACTS - 1; left >= 0; left--) {
            Report.due("undo()", row.undo(), left);
        }
        String walk = Rows.walk(row);
        Report.due("undo()", row.undo(), GorgeRow.LATE);
        Report.due("undo()", row.undo(), GorgeRow.LATE);
        Report.due("about(7)", row.about(7), 0);
        Report.holds("nothing is changed", walk.equals(Rows.walk(row)));
    }

    private static void lateUndoBehindGorge() {
        GorgeRow row = Bounds.halfWay();
        row.gorge();
        Report.due("undo()", row.undo(), GorgeRow.LATE);
    }

    private static void lateUndoBehindAgain() {
        Bounds.refused("undo()", GorgeRow::undo, GorgeRow.LATE, () -> {
            GorgeRow row = Bounds.full();
            row.again(1);
            return row;
        });
    }

    private static void lateUndoBehindRefused() {
        GorgeRow row = alike("G99", 2, "W50");
        row.minute(-1);
        row.minute(4);
        row.change(-1);
        row.change(1);
        row.change(4);
        Report.due("about(7)", row.about(7), 0);
        Report.due("undo()", row.undo(), GorgeRow.LATE);
        GorgeRow out = Rows.of("G19W50W50");
        out.minute(0);
        out.minute(0);
        out.change(0);
        out.rest();
        Report.due("about(7) at LIGHT", out.about(7), 1);
        Report.due("undo()", out.undo(), 0);
        dueWalk(out, "at 0 row 12 lost 0 quiet 0 0");
    }

    private static void undoEach() {
        GorgeRow row = Rows.of("G99W10W50W50W00W50");
        row.minute(0);
        String before = Rows.walk(row);
        dueWalk(row, "at 1 row 1234 lost 16 quiet 1 1 1 0 0");
        Report.due("minute(0)", row.minute(0), 2);
        Report.due("undo() of a MINUTE in which one is LOST", row.undo(), 1);
        dueWalk(row, before.trim());
        Report.due("change(2)", row.change(2), 1243);
        Report.due("undo() of a CHANGE", row.undo(), 1);
        dueWalk(row, before.trim());
        Report.due("rest()", row.rest(), 3);
        Report.due("undo() of a REST", row.undo(), 1);
        dueWalk(row, before.trim());
        Report.due("undo() of the first ACT", row.undo(), 0);
        dueWalk(row, "at 0 row 12345 lost 0 quiet 0 0 0 0 0");
    }

    private static void undoFourteen() {
        undoOf(MOST_ACTS);
        undoOf(MOST_ACTS - 1);
        undoOf(1);
    }

    /** So many ACTS, each of which can be told from the others by what it leaves. */
    private static void undoOf(int acts) {
        GorgeRow row = alike("G99", 5, "W51");
        row.minute(0);
        row.gorge();
        String[] walks = new String[acts + 1];
        for (int act = 0; act < acts; act++) {
            walks[act] = Rows.walk(row);
            actOf(row, act);
            Report.due("about(7)", row.about(7), Math.min(act + 1, MOST_ACTS));
        }
        int known = Math.min(acts, MOST_ACTS);
        for (int k = 1; k <= known; k++) {
            Report.due("undo(), the " + k + "th", row.undo(), known - k);
            Report.holds("as ahead of ACT " + (acts - k), walks[acts - k].equals(Rows.walk(row)));
        }
        Report.due("undo(), one more", row.undo(), GorgeRow.LATE);
        Report.holds("nothing is changed", walks[acts - known].equals(Rows.walk(row)));
    }

    private static void undoOfHundred() {
        GorgeRow row = alike("G99", 5, "W50");
        GorgeRow other = alike("G99", 5, "W50");
        for (int act = 0; act < 100; act++) {
            row.change(act * 7 % 4);
            if (act < 100 - MOST_ACTS) {
                other.change(act * 7 % 4);
            }
        }
        for (int left = MOST_ACTS - 1; left >= 0; left--) {
            Report.due("undo()", row.undo(), left);
        }
        Report.due("undo(), one more", row.undo(), GorgeRow.LATE);
        Report.due("about(6)", row.about(6), other.about(6));
    }

    private static void actOf(GorgeRow row, int act) {
        if (act % 12 == 5) {
            row.minute(0);
        } else if (act % 12 == 11) {
            row.rest();
        } else {
            row.change(act * 7 % 4);
        }
    }

    private static void undoAndFullAgain() {
        GorgeRow row = alike("G99", 5, "W50");
        for (int act = 0; act < 20; act++) {
            row.change(act % 4);
        }
        String walk = Rows.walk(row);
        Report.due("undo()", row.undo(), 13);
        row.rest();
        Report.due("about(7)", row.about(7), 14);
        row.minute(0);
        Report.due("about(7)", row.about(7), 14);
        Report.due("undo()", row.undo(), 13);
        Report.due("undo()", row.undo(), 12);
        row.change(19 % 4);
        Report.holds("done again it is as it was", walk.equals(Rows.walk(row)));
        Report.due("about(7)", row.about(7), 13);
    }

    private static void undoFromLight() {
        GorgeRow row = alike("G99", 5, "W00");
        Rows.minutes(row, 0, 0, 0, 0, 0, 0, 0, 0, 0);
        dueWalk(row, "at 9 row 1 lost 30 quiet 0 1 1 1 0");
        Report.due("undo()", row.undo(), 8);
        Report.due("about(10)", row.about(10), 0);
        for (int left = 7; left >= 0; left--) {
            Report.due("undo()", row.undo(), left);
        }
        dueWalk(row, "at 0 row 12345 lost 0 quiet 0 0 0 0 0");
    }

    private static void undoOnlyActs() {
        GorgeRow row = Bounds.full();
        GorgeRow other = Bounds.full();
        Report.due("undo()", row.undo(), 13);
        Report.due("about(8)", row.about(8), 6);
        Report.due("about(9)", row.about(9), 32);
        Report.due("letGo(false)", row.letGo(false), other.letGo(false));
        Report.due("seed(0)", row.seed(0), Long.MIN_VALUE);
        for (int slot = 0; slot <= 1; slot++) {
            Report.due("again(" + slot + ")", row.again(slot), other.again(slot));
            Report.holds("as it was kept", Rows.walk(row).equals(Rows.walk(other)));
        }
    }
}
