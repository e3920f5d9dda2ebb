/** Promises 17 to 24: each sentence that names a boundary. */
final class HeardBounds {
    private static final long MULTIPLIER = 6364136223846793005L;
    private static final long ADDEND = 1442695040888963407L;
    private static final int ALL_MINUTES = 1023;

    private HeardBounds() {
    }

    static void run() {
        still();
        pebbles();
        tell();
        letGo();
        link();
        seed();
        gorges();
    }

    private static void still() {
        Report.test("bounds 17 still: n, 1 is the least and 4 the greatest", HeardBounds::takenStillMinutes);
        Report.test("bounds 17 still: BAD: n, below 1 and above 4", HeardBounds::badStillMinutes);
        Report.test("bounds 17 still: heard, none and all of n", HeardBounds::takenHeard);
        Report.test("bounds 17 still: BAD: heard, no bits of n", HeardBounds::badHeard);
        Report.test("bounds 17 still: x, from 0 to 10 tenths", HeardBounds::takenStillSounds);
        Report.test("bounds 17 still: BAD: x, below 0 and above 10", HeardBounds::badStillSounds);
        Report.test("bounds 17 still: y, from 0 to 10 tenths", HeardBounds::takenLosses);
        Report.test("bounds 17 still: BAD: y, below 0 and above 10", HeardBounds::badLosses);
        Report.test("bounds 17 still: bit 0 is the first MINUTE", HeardBounds::firstBit);
        Report.test("bounds 17 still: LATE, it was heard that is never heard", HeardBounds::lateNeverHeard);
        Report.test("bounds 17 still: LATE, it was not heard that is surely heard", HeardBounds::lateSurelyHeard);
        Report.test("bounds 17 still: LATE, it was heard that is surely LOST", HeardBounds::lateSurelyLost);
        Report.test("bounds 17 still: LATE, it is LOST for good and was heard later", HeardBounds::lateHeardLater);
        Report.test("bounds 17 still: BAD is told ahead of LATE", HeardBounds::badStillAheadOfLate);
        Report.test("bounds 17 still: LATE changes nothing", HeardBounds::lateStillChangesNothing);
        Report.test("bounds 17 still: what can be, but not with it there, is 0 by 1", HeardBounds::stillNot);
        Report.test("bounds 17 still: surely there is 1 by 1", HeardBounds::surelyStill);
        Report.test("bounds 17 still: in least terms, the longest ones", HeardBounds::longestStill);
        Report.test("bounds 17 still: nothing is changed", HeardBounds::stillChangesNothing);
    }

    private static void pebbles() {
        Report.test("bounds 18 pebbles: BAD: c, below 1 and above 5", HeardBounds::badColours);
        Report.test("bounds 18 pebbles: BAD: n, below 0 and above 50", HeardBounds::badLeft);
        Report.test("bounds 18 pebbles: BAD of both", HeardBounds::badColoursAndLeft);
        Report.test("bounds 18 pebbles: n is 0, no pebble is needed", HeardBounds::noPebble);
        Report.test("bounds 18 pebbles: n is 1, the least that needs one", HeardBounds::onePebble);
        Report.test("bounds 18 pebbles: NONE, one colour", HeardBounds::noneOfOneColour);
        Report.test("bounds 18 pebbles: as many numbers as rows, and one more", HeardBounds::pebbleSteps);
        Report.test("bounds 18 pebbles: found, as many numbers as rows, and one more", HeardBounds::foundSteps);
        Report.test("bounds 18 pebbles: n is 50, the greatest", HeardBounds::mostPebbles);
        Report.test("bounds 18 pebbles: nothing is changed", HeardBounds::pebblesChangeNothing);
    }

    private static void tell() {
        Report.test("bounds 19 tell: t, 0 is the least and 8 the greatest", HeardBounds::takenTell);
        Report.test("bounds 19 tell: BAD: t, below 0 and above 8", HeardBounds::badTell);
        Report.test("bounds 19 tell: how many there are, from one to six", HeardBounds::tellEach);
        Report.test("bounds 19 tell: FULL, 6", HeardBounds::fullTold);
        Report.test("bounds 19 tell: BAD is told ahead of FULL", HeardBounds::badTellAheadOfFull);
        Report.test("bounds 19 tell: the same again counts", HeardBounds::tellTheSame);
        Report.test("bounds 20 untell: nothing there yet", HeardBounds::untellNothing);
        Report.test("bounds 20 untell: one, and all six", HeardBounds::untellOneAndAll);
        Report.test("bounds 20 untell: twice", HeardBounds::untellTwice);
        Report.test("bounds 20 untell: there is room again", HeardBounds::untellMakesRoom);
        Report.test("bounds 20 untell: only what is TOLD goes", HeardBounds::untellOnlyTold);
    }

    private static void letGo() {
        Report.test("bounds 21 letGo: nothing is TOLD", HeardBounds::letGoOfNothing);
        Report.test("bounds 21 letGo: heard in each MINUTE, from 0 to 8", HeardBounds::letGoHeard);
        Report.test("bounds 21 letGo: not heard in each MINUTE, from 0 to 8", HeardBounds::letGoSilent);
        Report.test("bounds 21 letGo: 9, not at all", HeardBounds::letGoNotAtAll);
        Report.test("bounds 21 letGo: no MINUTE agrees", HeardBounds::letGoNone);
        Report.test("bounds 21 letGo: one MINUTE alone agrees", HeardBounds::letGoOne);
        Report.test("bounds 21 letGo: by six that were told", HeardBounds::letGoSix);
        Report.test("bounds 21 letGo: each for itself", HeardBounds::letGoEachForItself);
        Report.test("bounds 21 letGo: nothing is changed", HeardBounds::letGoChangesNothing);
    }

    private static void link() {
        Report.test("bounds 22 link: BAD: v, below 0 and above 5", HeardBounds::badNerve);
        Report.test("bounds 22 link: BAD: x, below 0 and above 10", HeardBounds::badLinkSounds);
        Report.test("bounds 22 link: BAD: n, below 0 and above 6", HeardBounds::badLinkMinutes);
        Report.test("bounds 22 link: n is 0, it has not TURNED", HeardBounds::linkOfNoMinutes);
        Report.test("bounds 22 link: as many MINUTES as NERVE, and one more", HeardBounds::linkByNerve);
        Report.test("bounds 22 link: x is 0, never heard", HeardBounds::linkNeverHeard);
        Report.test("bounds 22 link: x is 10, always heard", HeardBounds::linkAlwaysHeard);
        Report.test("bounds 22 link: v is 0, the least", HeardBounds::linkOfLeastNerve);
        Report.test("bounds 22 link: v is 5 and n is 6, the greatest", HeardBounds::linkOfMostNerve);
        Report.test("bounds 22 link: nothing is changed", HeardBounds::linkChangesNothing);
    }

    private static void seed() {
        Report.test("bounds 23 seed: 0 at first", HeardBounds::firstSeed);
        Report.test("bounds 23 seed: the least and the greatest long", HeardBounds::farthestSeeds);
        Report.test("bounds 23 seed: only THE SEED changes", HeardBounds::seedOnly);
    }

    private static void gorges() {
        Report.test("bounds 24 gorges: m, 1 is the least and 20 the greatest", HeardBounds::takenGorges);
        Report.test("bounds 24 gorges: BAD: m, below 1 and above 20", HeardBounds::badGorges);
        Report.test("bounds 24 gorges: at LIGHT THE SEED stays", HeardBounds::gorgesAtLight);
        Report.test("bounds 24 gorges: a MINUTE ahead of LIGHT, and nine", HeardBounds::gorgesByMinutes);
        Report.test("bounds 24 gorges: nobody walks, THE SEED goes on", HeardBounds::gorgesOfNobody);
        Report.test("bounds 24 gorges: one is always OUT", HeardBounds::gorgesOfOne);
        Report.test("bounds 24 gorges: all of five are OUT, or one", HeardBounds::gorgesOfAllAndOne);
        Report.test("bounds 24 gorges: 64 bits, wrapping", HeardBounds::gorgesWrap);
        Report.test("bounds 24 gorges: the upper 31 bits of a SEED below 0", HeardBounds::gorgesByUpperBits);
        Report.test("bounds 24 gorges: nothing changes but THE SEED", HeardBounds::gorgesOnlySeed);
    }

    // ---- promise 17

    private static void dueStill(int n, int heard, int x, int y, int upper, int lower) {
        String arguments = "(" + n + ", " + heard + ", " + x + ", " + y + ", ";
        GorgeRow row = new GorgeRow();
        Report.due("still" + arguments + "true)", row.still(n, heard, x, y, true), upper);
        Report.due("still" + arguments + "false)", row.still(n, heard, x, y, false), lower);
    }

    private static void refusedStill(int n, int heard, int x, int y, int due) {
        String arguments = "(" + n + ", " + heard + ", " + x + ", " + y + ", ";
        Bounds.refused("still" + arguments + "true)", row -> row.still(n, heard, x, y, true), due);
        Bounds.refused("still" + arguments + "false)", row -> row.still(n, heard, x, y, false), due);
    }

    private static void takenStillMinutes() {
        int[] lowers = {3, 11, 43, 171};
        for (int n = 1; n <= 4; n++) {
            dueStill(n, 0, 5, 5, 1, lowers[n - 1]);
        }
    }

    private static void badStillMinutes() {
        for (int n : Bounds.outside(1, 4)) {
            refusedStill(n, 0, 5, 5, GorgeRow.BAD);
        }
        dueStill(0, 1, 5, 5, GorgeRow.BAD, GorgeRow.BAD);
        dueStill(5, 31, 5, 5, GorgeRow.BAD, GorgeRow.BAD);
        dueStill(32, 1, 5, 5, GorgeRow.BAD, GorgeRow.BAD);
    }

    private static void takenHeard() {
        for (int n = 1; n <= 4; n++) {
            dueStill(n, (1 << n) - 1, 5, 5, 1, 1);
            dueStill(n, 0, 0, 0, 1, 1);
            for (int heard = 0; heard < 1 << n; heard++) {
                Report.holds("taken", new GorgeRow().still(n, heard, 5, 5, false) >= 1);
            }
        }
    }

    private static void badHeard() {
        for (int n = 1; n <= 4; n++) {
            for (int heard : Bounds.outside(0, (1 << n) - 1)) {
                dueStill(n, heard, 5, 5, GorgeRow.BAD, GorgeRow.BAD);
            }
        }
        refusedStill(1, 2, 5, 5, GorgeRow.BAD);
        refusedStill(4, 16, 5, 5, GorgeRow.BAD);
        refusedStill(4, -1, 5, 5, GorgeRow.BAD);
    }

    private static void takenStillSounds() {
        int[] uppers = {1, 9, 4, 7, 3, 1, 2, 3, 1, 1, 0};
        int[] lowers = {2, 19, 9, 17, 8, 3, 7, 13, 6, 11, 1};
        for (int x = 0; x <= 10; x++) {
            dueStill(1, 0, x, 5, uppers[x], lowers[x]);
        }
    }

    private static void badStillSounds() {
        for (int x : Bounds.outside(0, 10)) {
            refusedStill(1, 0, x, 5, GorgeRow.BAD);
        }
    }

    private static void takenLosses() {
        int[] uppers = {1, 9, 2, 7, 3, 1, 1, 3, 1, 1, 0};
        int[] lowers = {1, 11, 3, 13, 7, 3, 4, 17, 9, 19, 1};
        for (int y = 0; y <= 10; y++) {
            dueStill(1, 0, 5, y, uppers[y], lowers[y]);
        }
    }

    private static void badLosses() {
        for (int y : Bounds.outside(0, 10)) {
            refusedStill(1, 0, 5, y, GorgeRow.BAD);
        }
    }

    private static void firstBit() {
        // Heard in the last MINUTE it is there; heard in the first one it can be LOST behind that.
        for (int n = 2; n <= 4; n++) {
            dueStill(n, 1 << n - 1, 5, 5, 1, 1);
        }
        dueStill(2, 1, 5, 5, 1, 3);
        dueStill(3, 1, 5, 5, 1, 11);
        dueStill(4, 1, 5, 5, 1, 43);
    }

    private static void lateNeverHeard() {
        for (int n = 1; n <= 4; n++) {
            for (int heard = 1; heard < 1 << n; heard++) {
                dueStill(n, heard, 0, 5, GorgeRow.LATE, GorgeRow.LATE);
                dueStill(n, heard, 0, 0, GorgeRow.LATE, GorgeRow.LATE);
            }
        }
    }

    private static void lateSurelyHeard() {
        for (int n = 1; n <= 4; n++) {
            for (int heard = 0; heard < (1 << n) - 1; heard++) {
                dueStill(n, heard, 10, 0, GorgeRow.LATE, GorgeRow.LATE);
            }
            dueStill(n, (1 << n) - 1, 10, 0, 1, 1);
        }
    }

    private static void lateSurelyLost() {
        for (int n = 1; n <= 4; n++) {
            for (int heard = 1; heard < 1 << n; heard++) {
                dueStill(n, heard, 5, 10, GorgeRow.LATE, GorgeRow.LATE);
            }
        }
    }

    private static void lateHeardLater() {
        // Always heard while it is there: not heard it is LOST, and can not be heard behind that.
        dueStill(2, 2, 10, 5, GorgeRow.LATE, GorgeRow.LATE);
        dueStill(3, 5, 10, 5, GorgeRow.LATE, GorgeRow.LATE);
        dueStill(4, 8, 10, 1, GorgeRow.LATE, GorgeRow.LATE);
        dueStill(4, 8, 9, 1, 1, 1);
    }

    private static void badStillAheadOfLate() {
        dueStill(0, 1, 0, 5, GorgeRow.BAD, GorgeRow.BAD);
        dueStill(1, 1, 0, 11, GorgeRow.BAD, GorgeRow.BAD);
        dueStill(1, 1, -1, 10, GorgeRow.BAD, GorgeRow.BAD);
        dueStill(1, 2, 0, 5, GorgeRow.BAD, GorgeRow.BAD);
    }

    private static void lateStillChangesNothing() {
        refusedStill(1, 1, 0, 5, GorgeRow.LATE);
        refusedStill(4, 0, 10, 0, GorgeRow.LATE);
    }

    private static void stillNot() {
        dueStill(1, 0, 5, 10, 0, 1);
        dueStill(1, 0, 10, 5, 0, 1);
        dueStill(1, 0, 10, 10, 0, 1);
        dueStill(4, 7, 10, 1, 0, 1);
        dueStill(4, 0, 0, 10, 0, 1);
    }

    private static void surelyStill() {
        dueStill(1, 1, 1, 9, 1, 1);
        dueStill(4, 15, 1, 9, 1, 1);
        dueStill(4, 8, 1, 9, 1, 1);
        dueStill(4, 0, 9, 0, 1, 1);
        dueStill(4, 15, 10, 0, 1, 1);
    }

    private static void longestStill() {
        dueStill(4, 0, 3, 9, 2401, 96774271);
        dueStill(4, 0, 9, 9, 1, 90909091);
        dueStill(4, 0, 1, 1, 43046721, 73022131);
    }

    private static void stillChangesNothing() {
        Bounds.unchanging("still(4, 15, 10, 0, true)", row -> row.still(4, 15, 10, 0, true), 1, Bounds::halfWay);
        Bounds.unchanging("still(1, 0, 5, 5, false)", row -> row.still(1, 0, 5, 5, false), 3, Bounds::full);
    }

    // ---- promise 18

    private static void refusedPebbles(int c, int n) {
        String arguments = "(" + c + ", " + n + ", ";
        Bounds.refused("pebbles" + arguments + "false)", row -> row.pebbles(c, n, false), GorgeRow.BAD);
        Bounds.refused("pebbles" + arguments + "true)", row -> row.pebbles(c, n, true), GorgeRow.BAD);
    }

    private static void duePebbles(int c, int n, int due, int dueFound) {
        String arguments = "(" + c + ", " + n + ", ";
        GorgeRow row = new GorgeRow();
        Report.due("pebbles" + arguments + "false)", row.pebbles(c, n, false), due);
        Report.due("pebbles" + arguments + "true)", row.pebbles(c, n, true), dueFound);
    }

    private static void badColours() {
        for (int c : Bounds.outside(1, 5)) {
            refusedPebbles(c, 0);
            refusedPebbles(c, 50);
        }
    }

    private static void badLeft() {
        for (int n : Bounds.outside(0, 50)) {
            refusedPebbles(1, n);
            refusedPebbles(5, n);
        }
    }

    private static void badColoursAndLeft() {
        refusedPebbles(0, -1);
        refusedPebbles(6, 51);
    }

    private static void noPebble() {
        for (int c = 1; c <= 5; c++) {
            duePebbles(c, 0, 0, 0);
        }
    }

    private static void onePebble() {
        for (int c = 2; c <= 5; c++) {
            duePebbles(c, 1, 1, 2);
        }
    }

    private static void noneOfOneColour() {
        for (int n = 1; n <= 50; n++) {
            duePebbles(1, n, GorgeRow.NONE, GorgeRow.NONE);
        }
    }

    private static void pebbleSteps() {
        GorgeRow row = new GorgeRow();
        for (int c = 2; c <= 5; c++) {
            int pebbles = 0;
            for (int rows = 1; rows <= 50; rows *= c) {
                Report.due(rows + " numbers of " + c, row.pebbles(c, rows - 1, false), pebbles);
                Report.due(rows + " numbers and one of " + c, row.pebbles(c, rows, false), pebbles + 1);
                pebbles++;
            }
        }
    }

    private static void foundSteps() {
        GorgeRow row = new GorgeRow();
        for (int c = 2; c <= 5; c++) {
            // The first pebbles tell the number, the last one whether one of them was taken for another.
            int pebbles = 1;
            for (int rows = 1; rows <= 50; rows *= c) {
                Report.due(rows + " numbers of " + c, row.pebbles(c, rows - 1, true), rows == 1 ? 0 : pebbles);
                Report.due(rows + " numbers and one of " + c, row.pebbles(c, rows, true), pebbles + 1);
                pebbles++;
            }
        }
    }

    private static void mostPebbles() {
        duePebbles(1, 50, GorgeRow.NONE, GorgeRow.NONE);
        duePebbles(2, 50, 6, 7);
        duePebbles(3, 50, 4, 5);
        duePebbles(4, 50, 3, 4);
        duePebbles(5, 50, 3, 4);
    }

    private static void pebblesChangeNothing() {
        Bounds.unchanging("pebbles(2, 50, true)", row -> row.pebbles(2, 50, true), 7, Bounds::halfWay);
        Bounds.unchanging("pebbles(1, 1, false)", row -> row.pebbles(1, 1, false), GorgeRow.NONE, Bounds::full);
    }

    // ---- promises 19 and 20

    private static void takenTell() {
        for (int t = 0; t <= 8; t++) {
            Report.due("tell(" + t + ", true)", new GorgeRow().tell(t, true), 1);
            Report.due("tell(" + t + ", false)", new GorgeRow().tell(t, false), 1);
        }
    }

    private static void badTell() {
        for (int t : Bounds.outside(0, 8)) {
            Bounds.refused("tell(" + t + ", true)", row -> row.tell(t, true), GorgeRow.BAD);
            Bounds.refused("tell(" + t + ", false)", row -> row.tell(t, false), GorgeRow.BAD);
        }
    }

    private static void tellEach() {
        GorgeRow row = new GorgeRow();
        for (int told = 1; told <= 6; told++) {
            Report.due("tell, the " + told + "th", row.tell(told, told % 2 == 0), told);
            Report.due("about(8)", row.about(8), told);
        }
    }

    private static void fullTold() {
        for (int t = 0; t <= 8; t++) {
            int minute = t;
            Bounds.refused("tell(" + t + ", true)", row -> row.tell(minute, true), GorgeRow.FULL, Bounds::full);
            Bounds.refused("tell(" + t + ", false)", row -> row.tell(minute, false), GorgeRow.FULL, Bounds::full);
        }
    }

    private static void badTellAheadOfFull() {
        GorgeRow row = Bounds.full();
        Report.due("tell(-1, true)", row.tell(-1, true), GorgeRow.BAD);
        Report.due("tell(9, false)", row.tell(9, false), GorgeRow.BAD);
        Report.due("tell(8, false)", row.tell(8, false), GorgeRow.FULL);
    }

    private static void tellTheSame() {
        GorgeRow row = new GorgeRow();
        for (int told = 1; told <= 6; told++) {
            Report.due("tell(8, false)", row.tell(8, false), told);
        }
        Report.due("tell(8, false), a seventh time", row.tell(8, false), GorgeRow.FULL);
        Report.due("untell()", row.untell(), 6);
    }

    private static void untellNothing() {
        Bounds.unchanging("untell()", GorgeRow::untell, 0, GorgeRow::new);
    }

    private static void untellOneAndAll() {
        for (int told = 1; told <= 6; told++) {
            GorgeRow row = new GorgeRow();
            for (int k = 0; k < told; k++) {
                row.tell(k, k % 2 == 0);
            }
            Report.due("untell()", row.untell(), told);
            dueNothingTold(row);
        }
    }

    private static void dueNothingTold(GorgeRow row) {
        Report.due("about(8)", row.about(8), 0);
        Report.due("letGo(true)", row.letGo(true), ALL_MINUTES);
        Report.due("letGo(false)", row.letGo(false), ALL_MINUTES);
    }

    private static void untellTwice() {
        GorgeRow row = Bounds.full();
        Report.due("untell()", row.untell(), 6);
        Report.due("untell()", row.untell(), 0);
        dueNothingTold(row);
    }

    private static void untellMakesRoom() {
        GorgeRow row = Bounds.full();
        row.untell();
        for (int told = 1; told <= 6; told++) {
            Report.due("tell(0, false)", row.tell(0, false), told);
        }
        Report.due("tell(0, false)", row.tell(0, false), GorgeRow.FULL);
        Report.due("letGo(true): only what was told since", row.letGo(true), 1);
    }

    private static void untellOnlyTold() {
        GorgeRow row = Bounds.halfWay();
        Report.due("untell()", row.untell(), 2);
        row.tell(2, true);
        row.tell(5, false);
        Report.holds("all but that stays", Rows.toldToTheEnd(row).equals(Rows.toldToTheEnd(Bounds.halfWay())));
    }

    // ---- promise 21

    private static void dueLetGo(GorgeRow row, int singing, int other) {
        Report.due("letGo(true)", row.letGo(true), singing);
        Report.due("letGo(false)", row.letGo(false), other);
    }

    private static void letGoOfNothing() {
        dueLetGo(new GorgeRow(), ALL_MINUTES, ALL_MINUTES);
    }

    private static void letGoHeard() {
        for (int t = 0; t <= 8; t++) {
            GorgeRow row = new GorgeRow();
            row.tell(t, true);
            int behind = 0;
            for (int g = t + 1; g <= 9; g++) {
                behind += 1 << g;
            }
            dueLetGo(row, behind, behind);
        }
    }

    private static void letGoSilent() {
        for (int t = 0; t <= 8; t++) {
            GorgeRow row = new GorgeRow();
            row.tell(t, false);
            int tillThen = 0;
            for (int g = 0; g <= t; g++) {
                tillThen += 1 << g;
            }
            dueLetGo(row, tillThen, ALL_MINUTES);
        }
    }

    private static void letGoNotAtAll() {
        GorgeRow row = new GorgeRow();
        row.tell(8, true);
        dueLetGo(row, 512, 512);
        row.tell(0, false);
        dueLetGo(row, 0, 512);
    }

    private static void letGoNone() {
        GorgeRow row = new GorgeRow();
        row.tell(0, false);
        row.tell(8, true);
        Report.due("letGo(true)", row.letGo(true), 0);
    }

    private static void letGoOne() {
        for (int g = 1; g <= 8; g++) {
            GorgeRow row = new GorgeRow();
            row.tell(g, false);
            row.tell(g - 1, true);
            dueLetGo(row, 1 << g, ALL_MINUTES - ((1 << g) - 1));
        }
        GorgeRow first = new GorgeRow();
        first.tell(0, false);
        dueLetGo(first, 1, ALL_MINUTES);
    }

    private static void letGoSix() {
        GorgeRow row = new GorgeRow();
        for (int t = 0; t < 6; t++) {
            row.tell(t < 3 ? t : t + 3, t < 3);
        }
        // Heard in 0, 1 and 2, not heard in 6, 7 and 8.
        dueLetGo(row, 8 + 16 + 32 + 64, ALL_MINUTES - 7);
    }

    private static void letGoEachForItself() {
        for (int t = 0; t <= 8; t++) {
            GorgeRow row = new GorgeRow();
            row.tell(t, true);
            row.tell(t, false);
            dueLetGo(row, 0, ALL_MINUTES - ((2 << t) - 1));
        }
    }

    private static void letGoChangesNothing() {
        Bounds.unchanging("letGo(true)", row -> row.letGo(true), 8 + 16 + 32, Bounds::halfWay);
        Bounds.unchanging("letGo(false)", row -> row.letGo(false), ALL_MINUTES - 7, Bounds::halfWay);
        Bounds.unchanging("letGo(true)", row -> row.letGo(true), 0, Bounds::full);
    }

    // ---- promise 22

    private static void refusedLink(int v, int x, int n) {
        String arguments = "(" + v + ", " + x + ", " + n + ", ";
        Bounds.refused("link" + arguments + "true)", row -> row.link(v, x, n, true), GorgeRow.BAD);
        Bounds.refused("link" + arguments + "false)", row -> row.link(v, x, n, false), GorgeRow.BAD);
    }

    private static void dueLink(int v, int x, int n, int upper, int lower) {
        String arguments = "(" + v + ", " + x + ", " + n + ", ";
        Report.due("link" + arguments + "true)", new GorgeRow().link(v, x, n, true), upper);
        Report.due("link" + arguments + "false)", new GorgeRow().link(v, x, n, false), lower);
    }

    private static void badNerve() {
        for (int v : Bounds.outside(0, 5)) {
            refusedLink(v, 5, 3);
        }
    }

    private static void badLinkSounds() {
        for (int x : Bounds.outside(0, 10)) {
            refusedLink(2, x, 3);
        }
    }

    private static void badLinkMinutes() {
        for (int n : Bounds.outside(0, 6)) {
            refusedLink(2, 5, n);
        }
    }

    private static void linkOfNoMinutes() {
        for (int v = 0; v <= 5; v++) {
            for (int x = 0; x <= 10; x++) {
                dueLink(v, x, 0, 1, 1);
            }
        }
    }

    private static void linkByNerve() {
        int lower = 1;
        for (int v = 0; v <= 5; v++) {
            lower *= 2;
            dueLink(v, 5, v, 1, 1);
            dueLink(v, 5, v + 1, lower - 1, lower);
        }
    }

    private static void linkNeverHeard() {
        for (int v = 0; v <= 5; v++) {
            for (int n = 0; n <= 6; n++) {
                dueLink(v, 0, n, n <= v ? 1 : 0, 1);
            }
        }
    }

    private static void linkAlwaysHeard() {
        for (int v = 0; v <= 5; v++) {
            for (int n = 0; n <= 6; n++) {
                dueLink(v, 10, n, 1, 1);
            }
        }
    }

    private static void linkOfLeastNerve() {
        int upper = 1;
        int lower = 1;
        for (int n = 1; n <= 6; n++) {
            upper *= 9;
            lower *= 10;
            dueLink(0, 1, n, 1, lower);
            dueLink(0, 9, n, upper, lower);
        }
    }

    private static void linkOfMostNerve() {
        dueLink(5, 1, 6, 468559, 1000000);
        dueLink(5, 5, 6, 63, 64);
        dueLink(5, 9, 6, 999999, 1000000);
        dueLink(4, 9, 6, 999981, 1000000);
    }

    private static void linkChangesNothing() {
        Bounds.unchanging("link(5, 9, 6, true)", row -> row.link(5, 9, 6, true), 999999, Bounds::halfWay);
        Bounds.unchanging("link(0, 0, 0, false)", row -> row.link(0, 0, 0, false), 1, Bounds::full);
    }

    // ---- promise 23

    private static void firstSeed() {
        Report.due("seed(0)", new GorgeRow().seed(0), 0);
        Report.due("seed(-1)", new GorgeRow().seed(-1), 0);
    }

    private static void farthestSeeds() {
        GorgeRow row = new GorgeRow();
        long was = 0;
        long[] seeds = {Long.MIN_VALUE, Long.MAX_VALUE, -1, 0, 1, 1L << 32, -1L << 32, Integer.MIN_VALUE};
        for (long seed : seeds) {
            Report.due("seed(" + seed + ")", row.seed(seed), was);
            was = seed;
        }
    }

    private static void seedOnly() {
        GorgeRow row = Bounds.full();
        Report.due("seed(5)", row.seed(5), Long.MIN_VALUE);
        Report.due("seed(MIN)", row.seed(Long.MIN_VALUE), 5);
        Report.holds("all is as it was", Rows.toldToTheEnd(row).equals(Rows.toldToTheEnd(Bounds.full())));
    }

    // ---- promise 24

    private static long next(long x) {
        return x * MULTIPLIER + ADDEND;
    }

    private static long next(long x, int times) {
        long last = x;
        for (int k = 0; k < times; k++) {
            last = next(last);
        }
        return last;
    }

    private static void takenGorges() {
        for (int m = 1; m <= 20; m++) {
            Report.due("gorges(" + m + ")", Rows.of("G59W50W50W50").gorges(m), 3 * m);
        }
    }

    private static void badGorges() {
        for (int m : Bounds.outside(1, 20)) {
            Bounds.refused("gorges(" + m + ")", row -> row.gorges(m), GorgeRow.BAD);
        }
    }

    private static void gorgesAtLight() {
        Bounds.unchanging("gorges(1)", row -> row.gorges(1), 3, Bounds::atLight);
        Bounds.unchanging("gorges(20)", row -> row.gorges(20), 60, Bounds::atLight);
    }

    private static void gorgesByMinutes() {
        GorgeRow row = Rows.of("G99W50");
        for (int place = 0; place <= 8; place++) {
            row.seed(place);
            Report.due("gorges(20) at " + place, row.gorges(20), 20);
            Report.due("seed(0) behind 20 times " + (9 - place), row.seed(0), next(place, 20 * (9 - place)));
            row.minute(0);
        }
    }

    private static void gorgesOfNobody() {
        GorgeRow row = new GorgeRow();
        Report.due("gorges(1)", row.gorges(1), 0);
        Report.due("seed(0)", row.seed(0), ADDEND);
        Report.due("gorges(20)", row.gorges(20), 0);
        Report.due("seed(0)", row.seed(0), next(0, 20));
    }

    private static void gorgesOfOne() {
        GorgeRow row = Rows.of("G99W00");
        Report.due("gorges(1)", row.gorges(1), 1);
        Report.due("gorges(20)", row.gorges(20), 20);
        GorgeRow left = Rows.of("G99W00W00");
        left.minute(0);
        Report.due("gorges(20), a LOST one is not OUT", left.gorges(20), 20);
    }

    private static void gorgesOfAllAndOne() {
        Report.due("gorges(20) of five of NERVE 5", Rows.of("G59W50W50W50W50W50").gorges(20), 100);
        Report.due("gorges(20) of five that sing", Rows.of("G99W02W02W02W02W02").gorges(20), 100);
        Report.due("gorges(20) of five that are DEAF", Rows.of("G99W01W01W01W01W01").gorges(20), 100);
    }

    private static void gorgesWrap() {
        for (long seed : new long[] {0, 1, 2, 3, -1, -2, Long.MAX_VALUE, Long.MIN_VALUE, 1L << 62, 1L << 32}) {
            GorgeRow row = Rows.of("G19W00W00");
            row.seed(seed);
            long x = next(seed);
            Report.due("gorges(1) by " + seed, row.gorges(1), (x >>> 34 & 1) == 1 ? 2 : 1);
            Report.due("seed(0)", row.seed(0), x);
        }
    }

    /** By which THE SEED becomes x in one MINUTE. */
    private static long aheadOf(long x) {
        long inverse = MULTIPLIER;
        // Each time twice as many bits are right; of an odd number three are at first.
        for (int k = 0; k < 5; k++) {
            inverse *= 2 - MULTIPLIER * inverse;
        }
        return (x - ADDEND) * inverse;
    }

    private static void gorgesByUpperBits() {
        for (int bit = 0; bit < 5; bit++) {
            long place = 1L << 33 + bit;
            dueOut(bit, place, 5);
            dueOut(bit, -1, 5);
            dueOut(bit, Long.MIN_VALUE | place, 5);
            dueOut(bit, ~place, 4);
            dueOut(bit, 0, 4);
            dueOut(bit, (1L << 33) - 1, 4);
            dueOut(bit, 1L << 38, 4);
            dueOut(bit, -1L << 38, 4);
            dueOut(bit, Long.MIN_VALUE, 4);
            dueOut(bit, Long.MAX_VALUE, 5);
        }
    }

    /** Five come out, if that WALKER treads in the MINUTE of x: only the one ahead of it is not DEAF. */
    private static void dueOut(int walker, long x, int due) {
        int ahead = walker == 0 ? 1 : walker - 1;
        StringBuilder text = new StringBuilder("G19W01W01W01W01W01");
        text.setCharAt(5 + 3 * ahead, '0');
        GorgeRow row = Rows.of(text.toString());
        if (walker == 0) {
            row.change(0);
        }
        row.seed(aheadOf(x));
        Report.due("gorges(1), WALKER " + walker + ", x is " + x, row.gorges(1), due);
        Report.due("seed(0)", row.seed(0), x);
    }

    private static void gorgesOnlySeed() {
        GorgeRow row = Bounds.halfWay();
        row.gorges(20);
        Report.due("seed(-77) behind 20 times five MINUTES", row.seed(-77), next(-77, 100));
        Report.holds("all else is as it was", Rows.toldToTheEnd(row).equals(Rows.toldToTheEnd(Bounds.halfWay())));
    }
}
