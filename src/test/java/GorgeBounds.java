/** Promises 1 to 7: each sentence that names a boundary. */
final class GorgeBounds {
    private static final String FIVE = "G10W00W11W22W33W50";

    private GorgeBounds() {
    }

    static void run() {
        newObject();
        write();
        wipe();
        fault();
        gorge();
        about();
        walker();
    }

    private static void newObject() {
        Report.test("bounds 1 new: Nobody", GorgeBounds::nobodyAtFirst);
        Report.test("bounds 1 new: at first LIGHT is 1, WATER 9", GorgeBounds::lightAndWaterAtFirst);
        Report.test("bounds 1 new: THE TEXT is empty", GorgeBounds::noTextAtFirst);
        Report.test("bounds 1 new: no ACTS", GorgeBounds::noActsAtFirst);
        Report.test("bounds 1 new: nothing is TOLD, none at first", GorgeBounds::nothingToldAtFirst);
        Report.test("bounds 1 new: THE SEED is 0 at first", GorgeBounds::seedAtFirst);
        Report.test("bounds 1 new: nothing is kept", GorgeBounds::nothingKeptAtFirst);
        Report.test("bounds 1 new: another one's calls do not count", GorgeBounds::nothingOfAnother);
    }

    private static void write() {
        Report.test("bounds 2 write: a byte, 0 is the least", () -> takenByte(0));
        Report.test("bounds 2 write: a byte, 255 is the greatest", () -> takenByte(255));
        Report.test("bounds 2 write: a byte, each one between is taken", GorgeBounds::everyByteIsTaken);
        Report.test("bounds 2 write: BAD, below 0 and above 255", GorgeBounds::badBytes);
        Report.test("bounds 2 write: how long it is, from the first to the 32nd", GorgeBounds::lengths);
        Report.test("bounds 2 write: FULL, there are 32", GorgeBounds::fullText);
        Report.test("bounds 2 write: BAD is told ahead of FULL", GorgeBounds::badAheadOfFull);
        Report.test("bounds 2 write: the bytes stand one behind the other", GorgeBounds::bytesInTheirOrder);
    }

    private static void wipe() {
        Report.test("bounds 3 wipe: nothing there yet", GorgeBounds::wipeNothing);
        Report.test("bounds 3 wipe: one byte", GorgeBounds::wipeOne);
        Report.test("bounds 3 wipe: all 32", GorgeBounds::wipeAll);
        Report.test("bounds 3 wipe: twice", GorgeBounds::wipeTwice);
        Report.test("bounds 3 wipe: what stood there does not come again", GorgeBounds::wipedDoesNotComeAgain);
        Report.test("bounds 3 wipe: only THE TEXT goes", GorgeBounds::wipeOnlyText);
    }

    private static void fault() {
        Report.test("bounds 4 fault: an empty TEXT is only not at its end", () -> dueFault("", 0));
        Report.test("bounds 4 fault: G, no other letter", GorgeBounds::faultOfG);
        Report.test("bounds 4 fault: LIGHT (1 .. 9)", () -> dueFigures("G", '1', '9'));
        Report.test("bounds 4 fault: WATER (0 .. 9)", () -> dueFigures("G9", '0', '9'));
        Report.test("bounds 4 fault: PARTS, none", () -> dueFault("G10", GorgeRow.NONE));
        Report.test("bounds 4 fault: W, no other letter", GorgeBounds::faultOfW);
        Report.test("bounds 4 fault: NERVE (0 .. 5)", GorgeBounds::faultOfNerve);
        Report.test("bounds 4 fault: KIND (0 .. 3)", GorgeBounds::faultOfKind);
        Report.test("bounds 4 fault: five WALKERS at most", GorgeBounds::faultOfSixth);
        Report.test("bounds 4 fault: its length, if it is only not at its end", GorgeBounds::faultOfBeginnings);
        Report.test("bounds 4 fault: each byte at each place", GorgeBounds::everyByteAtEveryPlace);
        Report.test("bounds 4 fault: the first byte, whatever comes behind it", GorgeBounds::firstFault);
        Report.test("bounds 4 fault: THE TEXT is full", GorgeBounds::faultOfFullText);
        Report.test("bounds 4 fault: nothing is changed", GorgeBounds::faultChangesNothing);
    }

    private static void gorge() {
        Report.test("bounds 5 gorge: how many WALKERS, from none to five", GorgeBounds::gorgeOfEach);
        Report.test("bounds 5 gorge: LIGHT and WATER, least and greatest", GorgeBounds::gorgeLightAndWater);
        Report.test("bounds 5 gorge: each NERVE, each KIND, each WALKER", GorgeBounds::gorgeOfEveryPart);
        Report.test("bounds 5 gorge: LATE, THE TEXT is empty", () -> lateGorge(""));
        Report.test("bounds 5 gorge: LATE, it is only not at its end", GorgeBounds::lateNotAtItsEnd);
        Report.test("bounds 5 gorge: LATE, a FAULT at the first byte", () -> lateGorge("X10W00"));
        Report.test("bounds 5 gorge: LATE, a FAULT at the last byte", () -> lateGorge("G10W00W04"));
        Report.test("bounds 5 gorge: LATE, a sixth WALKER", () -> lateGorge(FIVE + "W00"));
        Report.test("bounds 5 gorge: THE TEXT itself stays", GorgeBounds::textStays);
        Report.test("bounds 5 gorge: no ACTS, of fourteen", GorgeBounds::gorgeWithoutActs);
        Report.test("bounds 5 gorge: what was kept is gone, both", GorgeBounds::gorgeWithoutKept);
        Report.test("bounds 5 gorge: TOLD stays, of six", GorgeBounds::gorgeToldStays);
        Report.test("bounds 5 gorge: THE SEED stays", GorgeBounds::gorgeSeedStays);
        Report.test("bounds 5 gorge: all are at PLACE 0, from LIGHT", GorgeBounds::gorgeFromLight);
        Report.test("bounds 5 gorge: by number, nobody LOST, QUIET 0", GorgeBounds::gorgeByNumber);
        Report.test("bounds 5 gorge: fewer WALKERS, more WALKERS", GorgeBounds::gorgeOfFewerAndMore);
    }

    private static void about() {
        Report.test("bounds 6 about: BAD, below 0 and above 10", GorgeBounds::badAbout);
        Report.test("bounds 6 about: WALKERS (0), none and five", () -> dueOfLeastAndMost(0, 0, 5));
        Report.test("bounds 6 about: LIGHT (1), 1 and 9", () -> dueOfLeastAndMost(1, 1, 9));
        Report.test("bounds 6 about: WATER (2), 0 and 9", () -> dueOfLeastAndMost(2, 0, 9));
        Report.test("bounds 6 about: PLACE (3), from 0 to LIGHT", GorgeBounds::aboutPlace);
        Report.test("bounds 6 about: who is in THE ROW (4), nobody and all", () -> dueOfLeastAndMost(4, 0, 31));
        Report.test("bounds 6 about: who is LOST (5), nobody and all but one", GorgeBounds::aboutLost);
        Report.test("bounds 6 about: THE ROW (6), nobody and five", GorgeBounds::aboutRow);
        Report.test("bounds 6 about: ACTS (7), none and fourteen", GorgeBounds::aboutActs);
        Report.test("bounds 6 about: TOLD (8), none and six", GorgeBounds::aboutTold);
        Report.test("bounds 6 about: bytes of THE TEXT (9), none and 32", GorgeBounds::aboutBytes);
        Report.test("bounds 6 about: at LIGHT (10), not before it", GorgeBounds::aboutAtLight);
        Report.test("bounds 6 about: nothing is changed", GorgeBounds::aboutChangesNothing);
    }

    private static void walker() {
        Report.test("bounds 7 walker: UNKNOWN, of each number of WALKERS", GorgeBounds::unknownWalkers);
        Report.test("bounds 7 walker: UNKNOWN changes nothing", GorgeBounds::unknownChangesNothing);
        Report.test("bounds 7 walker: UNKNOWN is told ahead of BAD", GorgeBounds::unknownAheadOfBad);
        Report.test("bounds 7 walker: BAD, below 0 and above 4", GorgeBounds::badWalker);
        Report.test("bounds 7 walker: NERVE (0), 0 to 5", () -> dueOfParts(0, "G99W00W10W20W40W50", 0, 1, 2, 4, 5));
        Report.test("bounds 7 walker: KIND (1), 0 to 3", () -> dueOfParts(1, "G99W00W01W02W03W50", 0, 1, 2, 3, 0));
        Report.test("bounds 7 walker: QUIET (2), 0 to 9", GorgeBounds::walkerQuiet);
        Report.test("bounds 7 walker: its place (3), the first and the last", GorgeBounds::walkerPlace);
        Report.test("bounds 7 walker: its place (3), NONE: it is LOST", GorgeBounds::walkerPlaceOfLost);
        Report.test("bounds 7 walker: the one behind it (4), NONE: the last one", GorgeBounds::walkerBehindLast);
        Report.test("bounds 7 walker: the one behind it (4), NONE: it is LOST", GorgeBounds::walkerBehindLost);
        Report.test("bounds 7 walker: nothing is changed", GorgeBounds::walkerChangesNothing);
    }

    // ---- promise 1

    private static void nobodyAtFirst() {
        GorgeRow row = new GorgeRow();
        for (int what : new int[] {0, 4, 5, 6}) {
            Report.due("about(" + what + ")", row.about(what), 0);
        }
        for (int what = 0; what <= 4; what++) {
            Report.due("walker(0, " + what + ")", row.walker(0, what), GorgeRow.UNKNOWN);
        }
    }

    private static void lightAndWaterAtFirst() {
        GorgeRow row = new GorgeRow();
        Report.due("about(1)", row.about(1), 1);
        Report.due("about(2)", row.about(2), 9);
        Report.due("about(3)", row.about(3), 0);
        Report.due("about(10)", row.about(10), 0);
        Report.due("minute(0)", row.minute(0), 0);
        Report.due("about(3) behind a MINUTE", row.about(3), 1);
        Report.due("about(10) behind a MINUTE", row.about(10), 1);
        Report.due("minute(0), one too many", row.minute(0), GorgeRow.LATE);
    }

    private static void noTextAtFirst() {
        GorgeRow row = new GorgeRow();
        Report.due("about(9)", row.about(9), 0);
        Report.due("fault()", row.fault(), 0);
        Report.due("gorge()", row.gorge(), GorgeRow.LATE);
        Report.due("wipe()", row.wipe(), 0);
    }

    private static void noActsAtFirst() {
        GorgeRow row = new GorgeRow();
        Report.due("about(7)", row.about(7), 0);
        Report.due("undo()", row.undo(), GorgeRow.LATE);
    }

    private static void nothingToldAtFirst() {
        GorgeRow row = new GorgeRow();
        Report.due("about(8)", row.about(8), 0);
        Report.due("letGo(true)", row.letGo(true), 1023);
        Report.due("letGo(false)", row.letGo(false), 1023);
        Report.due("untell()", row.untell(), 0);
    }

    private static void seedAtFirst() {
        Report.due("seed(1)", new GorgeRow().seed(1), 0);
    }

    private static void nothingKeptAtFirst() {
        GorgeRow row = new GorgeRow();
        Report.due("again(0)", row.again(0), GorgeRow.LATE);
        Report.due("again(1)", row.again(1), GorgeRow.LATE);
    }

    private static void nothingOfAnother() {
        String told = Rows.toldToTheEnd(new GorgeRow());
        GorgeRow earlier = new GorgeRow();
        Bounds.full();
        Report.holds("made ahead of it: as at first", told.equals(Rows.toldToTheEnd(earlier)));
        Report.holds("made behind it: as at first", told.equals(Rows.toldToTheEnd(new GorgeRow())));
    }

    // ---- promise 2

    private static void takenByte(int letter) {
        GorgeRow row = new GorgeRow();
        Report.due("write(" + letter + ")", row.write(letter), 1);
        Report.due("about(9)", row.about(9), 1);
    }

    private static void everyByteIsTaken() {
        for (int letter = 0; letter <= 255; letter++) {
            takenByte(letter);
        }
    }

    private static void badBytes() {
        for (int letter : Bounds.outside(0, 255)) {
            Bounds.refused("write(" + letter + ")", row -> row.write(letter), GorgeRow.BAD);
        }
        // These would be taken, if only their last eight bits counted.
        Bounds.refused("write(256 + 71)", row -> row.write(256 + 71), GorgeRow.BAD);
        Bounds.refused("write(71 - 256)", row -> row.write(71 - 256), GorgeRow.BAD);
    }

    private static void lengths() {
        GorgeRow row = new GorgeRow();
        for (int length = 1; length <= 32; length++) {
            Report.due("write, the " + length + "th", row.write(length), length);
            Report.due("about(9)", row.about(9), length);
        }
    }

    private static void fullText() {
        for (int letter : new int[] {0, 'G', 255}) {
            Bounds.refused("write(" + letter + ")", row -> row.write(letter), GorgeRow.FULL, Bounds::full);
        }
        GorgeRow row = Bounds.full();
        row.write('G');
        Report.due("wipe()", row.wipe(), 32);
        Report.due("write(71), there is room again", row.write('G'), 1);
    }

    private static void badAheadOfFull() {
        GorgeRow row = Bounds.full();
        Report.due("write(-1)", row.write(-1), GorgeRow.BAD);
        Report.due("write(256)", row.write(256), GorgeRow.BAD);
        Report.due("write(255)", row.write(255), GorgeRow.FULL);
    }

    private static void bytesInTheirOrder() {
        GorgeRow row = new GorgeRow();
        for (int i = 0; i < FIVE.length(); i++) {
            Report.due("fault() ahead of byte " + i, row.fault(), i % 3 == 0 && i > 0 ? GorgeRow.NONE : i);
            row.write(FIVE.charAt(i));
        }
        Report.due("gorge()", row.gorge(), 5);
    }

    // ---- promise 3

    private static void wipeNothing() {
        Bounds.unchanging("wipe()", GorgeRow::wipe, 0, GorgeRow::new);
    }

    private static void wipeOne() {
        GorgeRow row = Rows.written("G");
        Report.due("wipe()", row.wipe(), 1);
        dueEmpty(row);
    }

    private static void wipeAll() {
        GorgeRow row = Bounds.full();
        Report.due("wipe()", row.wipe(), 32);
        dueEmpty(row);
        for (int length = 1; length <= 32; length++) {
            Report.due("write(0), once more", row.write(0), length);
        }
        Report.due("write(0), FULL once more", row.write(0), GorgeRow.FULL);
        Report.due("wipe(), once more", row.wipe(), 32);
    }

    private static void wipeTwice() {
        GorgeRow row = Rows.written("G10");
        Report.due("wipe()", row.wipe(), 3);
        Report.due("wipe()", row.wipe(), 0);
        dueEmpty(row);
    }

    private static void dueEmpty(GorgeRow row) {
        Report.due("about(9)", row.about(9), 0);
        Report.due("fault()", row.fault(), 0);
        Report.due("gorge()", row.gorge(), GorgeRow.LATE);
    }

    private static void wipedDoesNotComeAgain() {
        GorgeRow row = Rows.written("G10W00");
        row.wipe();
        row.write('G');
        Report.due("fault()", row.fault(), 1);
        Rows.write(row, "99");
        Report.due("fault()", row.fault(), GorgeRow.NONE);
        Report.due("gorge(): nobody", row.gorge(), 0);
    }

    private static void wipeOnlyText() {
        GorgeRow row = Bounds.full();
        GorgeRow other = Bounds.full();
        row.wipe();
        for (int what = 0; what <= 10; what++) {
            Report.due("about(" + what + ")", row.about(what), what == 9 ? 0 : other.about(what));
        }
        Rows.write(row, "G99W51W52W53W50W41");
        for (int length = 18; length < 32; length++) {
            row.write(255);
        }
        Report.holds("with the same TEXT all is as it was", Rows.toldToTheEnd(row).equals(Rows.toldToTheEnd(other)));
    }

    // ---- promise 4

    private static void dueFault(String text, int due) {
        Report.due("fault() of '" + text + "'", Rows.written(text).fault(), due);
    }

    /** Behind these only figures from the least to the greatest are no FAULT. */
    private static void dueFigures(String begun, int least, int greatest) {
        int place = begun.length();
        boolean isWhole = place % 3 == 2;
        dueFault(begun + (char) (least - 1), place);
        dueFault(begun + (char) least, isWhole ? GorgeRow.NONE : place + 1);
        dueFault(begun + (char) greatest, isWhole ? GorgeRow.NONE : place + 1);
        dueFault(begun + (char) (greatest + 1), place);
    }

    private static void faultOfG() {
        for (String letter : new String[] {"F", "H", "g", "W", "1", "\0", "\u00ff"}) {
            dueFault(letter, 0);
            dueFault(letter + "10", 0);
        }
        dueFault("G", 1);
    }

    private static void faultOfW() {
        for (String begun : new String[] {"G10", "G10W00", "G10W00W11W22W33"}) {
            for (String letter : new String[] {"V", "X", "w", "G", "0", "\0", "\u00ff"}) {
                dueFault(begun + letter, begun.length());
            }
            dueFault(begun + "W", begun.length() + 1);
        }
    }

    private static void faultOfNerve() {
        dueFigures("G10W", '0', '5');
        dueFigures("G10W00W11W22W33W", '0', '5');
    }

    private static void faultOfKind() {
        dueFigures("G10W0", '0', '3');
        dueFigures("G10W5", '0', '3');
        dueFigures("G10W00W11W22W33W5", '0', '3');
    }

    private static void faultOfSixth() {
        dueFault(FIVE, GorgeRow.NONE);
        dueFault(FIVE + "W", 18);
        dueFault(FIVE + "W00", 18);
        dueFault(FIVE + "\0", 18);
    }

    private static void faultOfBeginnings() {
        for (int length = 0; length <= FIVE.length(); length++) {
            boolean isWhole = length >= 3 && length % 3 == 0;
            dueFault(FIVE.substring(0, length), isWhole ? GorgeRow.NONE : length);
        }
    }

    private static void everyByteAtEveryPlace() {
        for (int place = 0; place <= FIVE.length(); place++) {
            for (char letter = 0; letter <= 255; letter++) {
                boolean fits = place < FIVE.length() && fits(letter, place);
                // Whether whole or not, what comes behind is no GORGE any more.
                String text = FIVE.substring(0, place) + letter + "?";
                dueFault(text, fits ? place + 1 : place);
            }
        }
    }

    private static boolean fits(char letter, int place) {
        String[] fitting = {"W", "012345", "0123"};
        String[] head = {"G", "123456789", "0123456789"};
        return (place < 3 ? head[place] : fitting[place % 3]).indexOf(letter) >= 0;
    }

    private static void firstFault() {
        dueFault("G0:X66", 1);
        dueFault("G1:X66", 2);
        dueFault("G10X66", 3);
        dueFault("G10W66", 4);
        dueFault("G10W56", 5);
        dueFault("X10W00W11W22W33W50", 0);
    }

    private static void faultOfFullText() {
        Report.due("fault(), the fourteen last ones are too many", Bounds.full().fault(), 18);
        GorgeRow zeros = new GorgeRow();
        for (int length = 1; length <= 32; length++) {
            zeros.write(0);
        }
        Report.due("fault() of 32 times 0", zeros.fault(), 0);
        dueFault("G10W00W00W00W00W00W00W00W00W00W0", 18);
        dueFault("G10W00W00W00W00W0WW00W00W00W00W0", 17);
    }

    private static void faultChangesNothing() {
        Bounds.unchanging("fault(), NONE", GorgeRow::fault, GorgeRow.NONE, Bounds::halfWay);
        Bounds.unchanging("fault()", GorgeRow::fault, 18, Bounds::full);
        Bounds.unchanging("fault()", GorgeRow::fault, 0, GorgeRow::new);
    }

    // ---- promise 5

    private static void gorgeOfEach() {
        for (int walkers = 0; walkers <= 5; walkers++) {
            GorgeRow row = Rows.written(FIVE.substring(0, 3 + 3 * walkers));
            Report.due("gorge()", row.gorge(), walkers);
            Report.due("about(0)", row.about(0), walkers);
            Report.due("about(4)", row.about(4), (1 << walkers) - 1);
        }
    }

    private static void gorgeLightAndWater() {
        for (int light = 1; light <= 9; light++) {
            for (int water = 0; water <= 9; water++) {
                GorgeRow row = Rows.of("G" + light + water);
                Report.due("about(1)", row.about(1), light);
                Report.due("about(2)", row.about(2), water);
            }
        }
    }

    private static void gorgeOfEveryPart() {
        for (int nerve = 0; nerve <= 5; nerve++) {
            for (int kind = 0; kind <= 3; kind++) {
                String part = "W" + nerve + kind;
                GorgeRow row = Rows.of("G10" + part + part + part + part + part);
                for (int walker = 0; walker < 5; walker++) {
                    Report.due("walker(" + walker + ", 0) of " + part, row.walker(walker, 0), nerve);
                    Report.due("walker(" + walker + ", 1) of " + part, row.walker(walker, 1), kind);
                }
            }
        }
    }

    private static void lateGorge(String text) {
        Bounds.refused("gorge() of '" + text + "'", GorgeRow::gorge, GorgeRow.LATE, () -> Rows.written(text));
        Bounds.refused("gorge() of '" + text + "', half-way", GorgeRow::gorge, GorgeRow.LATE,
                () -> rewritten(Bounds.halfWay(), text));
        Bounds.refused("gorge() of '" + text + "', at LIGHT", GorgeRow::gorge, GorgeRow.LATE,
                () -> rewritten(Bounds.atLight(), text));
        Bounds.refused("gorge() of '" + text + "', full", GorgeRow::gorge, GorgeRow.LATE,
                () -> rewritten(Bounds.full(), text));
    }

    private static GorgeRow rewritten(GorgeRow row, String text) {
        row.wipe();
        Rows.write(row, text);
        return row;
    }

    private static void lateNotAtItsEnd() {
        for (int length = 1; length <= 17; length++) {
            if (length < 3 || length % 3 != 0) {
                lateGorge(FIVE.substring(0, length));
            }
        }
    }

    private static void textStays() {
        GorgeRow row = Rows.of(FIVE);
        Report.due("about(9)", row.about(9), 18);
        Report.due("fault()", row.fault(), GorgeRow.NONE);
        Report.due("gorge(), once more", row.gorge(), 5);
        Report.due("wipe()", row.wipe(), 18);
        Report.due("about(0): THE GORGE stays, too", row.about(0), 5);
    }

    private static void gorgeWithoutActs() {
        GorgeRow row = rewritten(Bounds.full(), FIVE);
        Report.due("about(7)", row.about(7), 14);
        Report.due("gorge()", row.gorge(), 5);
        Report.due("about(7)", row.about(7), 0);
        Report.due("undo()", row.undo(), GorgeRow.LATE);
        Report.due("about(3)", row.about(3), 0);
    }

    private static void gorgeWithoutKept() {
        GorgeRow row = rewritten(Bounds.full(), FIVE);
        Report.due("gorge()", row.gorge(), 5);
        Report.due("again(0)", row.again(0), GorgeRow.LATE);
        Report.due("again(1)", row.again(1), GorgeRow.LATE);
    }

    private static void gorgeToldStays() {
        GorgeRow row = rewritten(Bounds.full(), FIVE);
        int letGo = row.letGo(false);
        Report.due("gorge()", row.gorge(), 5);
        Report.due("about(8)", row.about(8), 6);
        Report.due("letGo(false)", row.letGo(false), letGo);
        Report.due("tell(0, true)", row.tell(0, true), GorgeRow.FULL);
    }

    private static void gorgeSeedStays() {
        for (long seed : new long[] {Long.MIN_VALUE, -1, 0, Long.MAX_VALUE}) {
            GorgeRow row = Rows.written(FIVE);
            row.seed(seed);
            row.gorge();
            Report.due("seed(5)", row.seed(5), seed);
        }
    }

    private static void gorgeFromLight() {
        GorgeRow row = Rows.of("G99W00");
        Rows.minutes(row, 0, 0, 0, 0, 0, 0, 0, 0, 0);
        Report.due("about(10)", row.about(10), 1);
        Report.due("gorge()", row.gorge(), 1);
        Report.due("about(3)", row.about(3), 0);
        Report.due("about(10)", row.about(10), 0);
        Report.due("minute(0)", row.minute(0), 0);
    }

    private static void gorgeByNumber() {
        GorgeRow row = Rows.of("G99W51W00W50W50W00");
        row.change(0);
        row.change(3);
        Rows.minutes(row, 0, 0);
        Report.holds("some are LOST: " + Rows.walk(row), Rows.walk(row).equals("at 2 row 25 lost 13 quiet 1 0 2 0 0 "));
        Report.due("gorge()", row.gorge(), 5);
        Report.holds("made anew: " + Rows.walk(row), Rows.walk(row).equals("at 0 row 12345 lost 0 quiet 0 0 0 0 0 "));
    }

    private static void gorgeOfFewerAndMore() {
        GorgeRow row = Rows.of(FIVE);
        row.minute(0);
        Rows.remake(row, "G55");
        Report.due("about(0)", row.about(0), 0);
        Report.due("about(6)", row.about(6), 0);
        Report.due("about(5): nobody is LOST", row.about(5), 0);
        Report.due("walker(0, 0)", row.walker(0, 0), GorgeRow.UNKNOWN);
        Rows.remake(row, "G55W10");
        Report.due("about(6)", row.about(6), 1);
        Report.due("walker(1, 0)", row.walker(1, 0), GorgeRow.UNKNOWN);
        Rows.remake(row, "G55W53W42W31W20W10");
        Report.due("about(6)", row.about(6), 12345);
        int[] kinds = {3, 2, 1, 0, 0};
        for (int walker = 0; walker < 5; walker++) {
            Report.due("walker(" + walker + ", 0)", row.walker(walker, 0), 5 - walker);
            Report.due("walker(" + walker + ", 1)", row.walker(walker, 1), kinds[walker]);
        }
    }

    // ---- promise 6

    private static void badAbout() {
        for (int what : Bounds.outside(0, 10)) {
            Bounds.refused("about(" + what + ")", row -> row.about(what), GorgeRow.BAD);
        }
    }

    private static void dueOfLeastAndMost(int what, int least, int most) {
        String call = "about(" + what + ")";
        Report.due(call + " of the least", Rows.of("G10").about(what), least);
        Report.due(call + " of the most", Rows.of("G99W53W53W53W53W53").about(what), most);
    }

    private static void aboutPlace() {
        GorgeRow row = Rows.of("G99W50");
        for (int place = 0; place <= 9; place++) {
            Report.due("about(3)", row.about(3), place);
            row.minute(0);
        }
        Report.due("about(3): no farther than LIGHT", row.about(3), 9);
    }

    private static void aboutLost() {
        GorgeRow row = Rows.of("G99W00W00W00W00W00");
        Report.due("about(5)", row.about(5), 0);
        Rows.minutes(row, 0, 0, 0);
        Report.due("about(5)", row.about(5), 30);
        Report.due("about(4)", row.about(4), 1);
        Rows.minutes(row, 0, 0, 0, 0, 0, 0);
        Report.due("about(5) at LIGHT: the first one is never LOST", row.about(5), 30);
    }

    private static void aboutRow() {
        Report.due("about(6): nobody", Rows.of("G10").about(6), 0);
        GorgeRow row = Rows.of("G99W50W50W50W50W50");
        Report.due("about(6)", row.about(6), 12345);
        for (int i : new int[] {0, 1, 2, 3, 0, 1, 2, 0, 1, 0}) {
            row.change(i);
        }
        Report.due("about(6), the other way round", row.about(6), 54321);
    }

    private static void aboutActs() {
        GorgeRow row = Rows.of("G99");
        for (int act = 0; act <= 14; act++) {
            Report.due("about(7)", row.about(7), act);
            row.rest();
        }
        Report.due("about(7) behind a fifteenth", row.about(7), 14);
    }

    private static void aboutTold() {
        GorgeRow row = new GorgeRow();
        for (int told = 0; told <= 6; told++) {
            Report.due("about(8)", row.about(8), told);
            row.tell(8, false);
        }
        Report.due("about(8) behind a seventh", row.about(8), 6);
    }

    private static void aboutBytes() {
        GorgeRow row = new GorgeRow();
        for (int length = 0; length <= 32; length++) {
            Report.due("about(9)", row.about(9), length);
            row.write(0);
        }
        Report.due("about(9) behind one too many", row.about(9), 32);
    }

    private static void aboutAtLight() {
        for (int light = 1; light <= 9; light++) {
            GorgeRow row = Rows.of("G" + light + "9W50");
            for (int place = 0; place < light; place++) {
                Report.due("about(10) at " + place + " of " + light, row.about(10), 0);
                row.minute(0);
            }
            Report.due("about(10) at LIGHT " + light, row.about(10), 1);
        }
    }

    private static void aboutChangesNothing() {
        int[] due = {5, 9, 8, 4, 13, 18, 134, 6, 2, 9, 0};
        for (int k = 0; k < due.length; k++) {
            int what = k;
            Bounds.unchanging("about(" + what + ")", row -> row.about(what), due[what], Bounds::halfWay);
        }
    }

    // ---- promise 7

    private static void unknownWalkers() {
        for (int walkers = 0; walkers <= 5; walkers++) {
            GorgeRow row = Rows.of(FIVE.substring(0, 3 + 3 * walkers));
            for (int walker : Bounds.outside(0, walkers - 1)) {
                Report.due("walker(" + walker + ", 0) of " + walkers, row.walker(walker, 0), GorgeRow.UNKNOWN);
            }
            for (int walker = 0; walker < walkers; walker++) {
                Report.due("walker(" + walker + ", 3) of " + walkers, row.walker(walker, 3), walker);
            }
        }
    }

    private static void unknownChangesNothing() {
        for (int walker : Bounds.outside(0, 4)) {
            for (int what = 0; what <= 4; what++) {
                int asked = what;
                String call = "walker(" + walker + ", " + what + ")";
                Bounds.refused(call, row -> row.walker(walker, asked), GorgeRow.UNKNOWN);
            }
        }
    }

    private static void unknownAheadOfBad() {
        GorgeRow row = Rows.of("G99W00W00");
        for (int what : new int[] {-1, 5}) {
            Report.due("walker(-1, " + what + ")", row.walker(-1, what), GorgeRow.UNKNOWN);
            Report.due("walker(2, " + what + ")", row.walker(2, what), GorgeRow.UNKNOWN);
            Report.due("walker(1, " + what + ")", row.walker(1, what), GorgeRow.BAD);
        }
    }

    private static void badWalker() {
        for (int what : Bounds.outside(0, 4)) {
            for (int walker : new int[] {0, 4}) {
                String call = "walker(" + walker + ", " + what + ")";
                Bounds.refused(call, row -> row.walker(walker, what), GorgeRow.BAD, Bounds::halfWay);
                Bounds.refused(call, row -> row.walker(walker, what), GorgeRow.BAD, Bounds::full);
            }
            // Of one that is LOST, too.
            Bounds.refused("walker(1, " + what + ")", row -> row.walker(1, what), GorgeRow.BAD, Bounds::atLight);
        }
    }

    private static void dueOfParts(int what, String text, int... due) {
        GorgeRow row = Rows.of(text);
        for (int walker = 0; walker < due.length; walker++) {
            Report.due("walker(" + walker + ", " + what + ")", row.walker(walker, what), due[walker]);
        }
    }

    private static void walkerQuiet() {
        GorgeRow row = Rows.of("G99W01W01W01W01W50");
        for (int minutes = 0; minutes <= 9; minutes++) {
            for (int walker = 0; walker < 4; walker++) {
                Report.due("walker(" + walker + ", 2) behind " + minutes, row.walker(walker, 2), minutes);
            }
            Report.due("walker(4, 2): the last one", row.walker(4, 2), 0);
            row.minute(0);
        }
    }

    private static void walkerPlace() {
        GorgeRow row = Rows.of("G99W50W50W50W50W50");
        dueRow(row, 0, 1, 2, 3, 4);
        row.change(0);
        row.change(3);
        dueRow(row, 1, 0, 2, 4, 3);
        Report.due("walker(0, 3) of one", Rows.of("G99W50").walker(0, 3), 0);
    }

    private static void dueRow(GorgeRow row, int... walkers) {
        for (int i = 0; i < walkers.length; i++) {
            Report.due("walker(" + walkers[i] + ", 3)", row.walker(walkers[i], 3), i);
        }
    }

    private static void walkerPlaceOfLost() {
        GorgeRow row = Rows.of("G99W00W50W00W50");
        row.minute(0);
        int[] due = {0, GorgeRow.NONE, 1, GorgeRow.NONE};
        for (int walker = 0; walker < 4; walker++) {
            Report.due("walker(" + walker + ", 3)", row.walker(walker, 3), due[walker]);
        }
    }

    private static void walkerBehindLast() {
        GorgeRow row = Rows.of("G99W50W50W50W50W50");
        for (int walker = 0; walker < 4; walker++) {
            Report.due("walker(" + walker + ", 4)", row.walker(walker, 4), walker + 1);
        }
        Report.due("walker(4, 4)", row.walker(4, 4), GorgeRow.NONE);
        row.change(3);
        Report.due("walker(3, 4), the last one now", row.walker(3, 4), GorgeRow.NONE);
        Report.due("walker(4, 4)", row.walker(4, 4), 3);
        Report.due("walker(0, 4) of one", Rows.of("G99W50").walker(0, 4), GorgeRow.NONE);
    }

    private static void walkerBehindLost() {
        GorgeRow row = Rows.of("G99W00W50W50");
        row.minute(0);
        Report.due("walker(1, 4): it is LOST", row.walker(1, 4), GorgeRow.NONE);
        Report.due("walker(0, 4): who was behind the LOST one", row.walker(0, 4), 2);
        row.minute(0);
        Report.due("walker(0, 4): nobody any more", row.walker(0, 4), GorgeRow.NONE);
        Report.due("walker(2, 4): it is LOST", row.walker(2, 4), GorgeRow.NONE);
    }

    private static void walkerChangesNothing() {
        int[] due = {1, 2, 1, 1, 3};
        for (int k = 0; k < due.length; k++) {
            int what = k;
            Bounds.unchanging("walker(2, " + what + ")", row -> row.walker(2, what), due[what], Bounds::halfWay);
        }
    }
}
