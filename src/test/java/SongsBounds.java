import java.util.function.ToLongFunction;

/** Promises 12 to 16: each sentence that names a boundary. */
final class SongsBounds {
    /** A SONG of n MINUTES in which all tread. */
    private static final long[] ALL_TREAD = {0, 31, 3131, 313131, 31313131, 3131313131L};
    private static final int[] TAKEN_NS = {1, 2, 3, 4, 5};

    /** One of the calls that take a SONG, with what else it takes set. */
    private interface Sung {
        long of(GorgeRow row, int n, long song);
    }

    private SongsBounds() {
    }

    static void run() {
        song("12 left", GorgeRow::left, 7, 1);
        song("13 firstTurn", GorgeRow::firstTurn, GorgeRow.NONE, 0);
        song("14 order", (row, n, song) -> row.order(n, song, 0), 123, 123);
        song("14 order, how many", (row, n, song) -> row.order(n, song, 1), 3, 1);
        song("15 share, upper", (row, n, song) -> row.share(0, n, song, true), 1, 1);
        song("15 share, lower", (row, n, song) -> row.share(2, n, song, false), 1, 3);
        left();
        firstTurn();
        order();
        share();
        bears();
    }

    /**
     * What holds for each call that takes a SONG; and what is due of three WALKERS of NERVE 0, if all
     * tread in five MINUTES, and if nobody does.
     */
    private static void song(String name, Sung sung, long dueOfAll, long dueOfNone) {
        String bounds = "bounds " + name + ": ";
        Report.test(bounds + "n, 1 is the least and 5 the greatest", () -> takenNs(sung, dueOfAll));
        Report.test(bounds + "n, five MINUTES in which nobody treads", () -> takenSong(sung, 5, 0, dueOfNone));
        Report.test(bounds + "BAD: n, below 1 and above 5", () -> badNs(sung));
        Report.test(bounds + "BAD: song, less than 0", () -> badNegatives(sung));
        Report.test(bounds + "BAD: song, more than 2 n figures", () -> badLongSongs(sung));
        Report.test(bounds + "BAD: song, two figures of 32 and more at each place", () -> badFigures(sung));
        Report.test(bounds + "song, each two figures from 00 to 31", () -> takenFigures(sung));
        Report.test(bounds + "bits of WALKERS that there are not do not count", () -> bitsOfNobody(sung));
        Report.test(bounds + "one behind the other, the highest first", () -> highestFirst(sung));
        Report.test(bounds + "no farther than LIGHT", () -> noFartherThanLight(sung));
        Report.test(bounds + "at LIGHT", () -> songAtLight(sung));
        Report.test(bounds + "nothing is changed", () -> songChangesNothing(sung));
    }

    private static void left() {
        Report.test("bounds 12 left: nobody walks", SongsBounds::leftOfNobody);
        Report.test("bounds 12 left: one, all five, and only the first one of five", SongsBounds::leftOfOneAndAll);
        Report.test("bounds 12 left: from the QUIET there is now", SongsBounds::leftByQuiet);
    }

    private static void firstTurn() {
        Report.test("bounds 13 firstTurn: each MINUTE, from 0 to 4", SongsBounds::everyFirstTurn);
        Report.test("bounds 13 firstTurn: NONE, nobody TURNS", SongsBounds::noTurn);
        Report.test("bounds 13 firstTurn: NONE, LIGHT comes first", SongsBounds::noTurnAheadOfLight);
        Report.test("bounds 13 firstTurn: NONE, nobody or one walks", SongsBounds::noTurnOfFew);
    }

    private static void order() {
        Report.test("bounds 14 order: BAD: what, below 0 and above 1", SongsBounds::badWhat);
        Report.test("bounds 14 order: BAD: of n, song and what all are", SongsBounds::badAll);
        Report.test("bounds 14 order: 0: nobody", SongsBounds::orderOfNobody);
        Report.test("bounds 14 order: one", SongsBounds::orderOfOne);
        Report.test("bounds 14 order: of like ones the first of all", SongsBounds::firstOfLikeOrders);
        Report.test("bounds 14 order: the last of all orders", SongsBounds::lastOrder);
        Report.test("bounds 14 order: one of five is left at the most", SongsBounds::orderOfOneLeft);
        Report.test("bounds 14 order: LOST ones are in none", SongsBounds::orderWithoutLost);
    }

    private static void share() {
        Report.test("bounds 15 share: UNKNOWN, of each number of WALKERS", SongsBounds::unknownShare);
        Report.test("bounds 15 share: UNKNOWN changes nothing", SongsBounds::unknownShareChangesNothing);
        Report.test("bounds 15 share: UNKNOWN is told ahead of BAD", SongsBounds::unknownShareAheadOfBad);
        Report.test("bounds 15 share: 0, if it is LOST", SongsBounds::shareOfLost);
        Report.test("bounds 15 share: BAD is told of a LOST one, too", SongsBounds::badShareOfLost);
        Report.test("bounds 15 share: 0 of one that is not LOST is 0 by 1", SongsBounds::shareOfNothing);
        Report.test("bounds 15 share: the only one is 1 by 1", SongsBounds::shareOfOne);
        Report.test("bounds 15 share: 1 by 1 each, if all are left", SongsBounds::shareOfAllLeft);
        Report.test("bounds 15 share: less than 0, the upper one is", SongsBounds::shareBelowNothing);
        Report.test("bounds 15 share: in least terms", SongsBounds::shareInLeastTerms);
        Report.test("bounds 15 share: all together are those that are left", SongsBounds::sharesTogether);
    }

    private static void bears() {
        Report.test("bounds 16 bears: UNKNOWN, of each number of WALKERS", SongsBounds::unknownBears);
        Report.test("bounds 16 bears: UNKNOWN changes nothing", SongsBounds::unknownBearsChangesNothing);
        Report.test("bounds 16 bears: LATE, it is LOST", SongsBounds::lateBears);
        Report.test("bounds 16 bears: 1, in the first one; by NERVE from 0 to 5", SongsBounds::bearsByNerve);
        Report.test("bounds 16 bears: in the last MINUTE, and NONE behind it", SongsBounds::bearsTillLight);
        Report.test("bounds 16 bears: 9 is the greatest", SongsBounds::bearsNine);
        Report.test("bounds 16 bears: NONE, it is LOST by then", SongsBounds::bearsLostByThen);
        Report.test("bounds 16 bears: NONE, the last one and the only one", SongsBounds::bearsOfLast);
        Report.test("bounds 16 bears: NONE, a DEAF one and one ahead of a SINGING one", SongsBounds::bearsOfKinds);
        Report.test("bounds 16 bears: NONE at LIGHT", SongsBounds::bearsAtLight);
        Report.test("bounds 16 bears: nothing is changed", SongsBounds::bearsChangesNothing);
    }

    // ---- songs

    private static GorgeRow three() {
        return Rows.of("G59W00W00W00");
    }

    private static void takenSong(Sung sung, int n, long song, long due) {
        Report.due("of " + n + ", " + song, sung.of(three(), n, song), due);
    }

    private static void takenNs(Sung sung, long due) {
        for (int n : TAKEN_NS) {
            takenSong(sung, n, ALL_TREAD[n], due);
        }
    }

    private static void dueBad(Sung sung, int n, long song) {
        Report.due("of " + n + ", " + song, sung.of(three(), n, song), GorgeRow.BAD);
    }

    /** What is refused whatever there is already; of no WALKER share is UNKNOWN. */
    private static void refused(Sung sung, int n, long song) {
        ToLongFunction<GorgeRow> made = row -> sung.of(row, n, song);
        String call = n + ", " + song;
        Bounds.refused(call, made, GorgeRow.BAD, SongsBounds::three);
        Bounds.refused(call, made, GorgeRow.BAD, Bounds::halfWay);
        Bounds.refused(call, made, GorgeRow.BAD, Bounds::atLight);
        Bounds.refused(call, made, GorgeRow.BAD, Bounds::full);
    }

    private static void badNs(Sung sung) {
        for (int n : Bounds.outside(1, 5)) {
            refused(sung, n, 0);
        }
        dueBad(sung, 0, 31);
        dueBad(sung, 6, 313131313131L);
    }

    private static void badNegatives(Sung sung) {
        for (int n : TAKEN_NS) {
            for (long song : new long[] {-1, -31, -ALL_TREAD[n], -10000000000L, Long.MIN_VALUE, Long.MIN_VALUE + 1}) {
                dueBad(sung, n, song);
            }
        }
        refused(sung, 1, -1);
        refused(sung, 5, Long.MIN_VALUE);
    }

    private static void badLongSongs(Sung sung) {
        long moreFigures = 100;
        for (int n : TAKEN_NS) {
            dueBad(sung, n, moreFigures);
            dueBad(sung, n, moreFigures + ALL_TREAD[n]);
            dueBad(sung, n, moreFigures * 1000);
            dueBad(sung, n, Long.MAX_VALUE);
            // These would be taken, if only their last 32 bits counted.
            dueBad(sung, n, 1L << 32 << 2 * n);
            moreFigures *= 100;
        }
        refused(sung, 1, 100);
        refused(sung, 5, 10000000000L);
        refused(sung, 5, Long.MAX_VALUE);
    }

    private static void badFigures(Sung sung) {
        for (int n : TAKEN_NS) {
            long place = 1;
            for (int k = 0; k < n; k++) {
                for (int figures : new int[] {32, 33, 40, 63, 64, 99}) {
                    dueBad(sung, n, figures * place);
                    dueBad(sung, n, ALL_TREAD[n] + (figures - 31) * place);
                }
                place *= 100;
            }
        }
        refused(sung, 1, 32);
        refused(sung, 5, 3231313131L);
        refused(sung, 5, 3131313132L);
    }

    private static void takenFigures(Sung sung) {
        long place = 1;
        for (int k = 0; k < 5; k++) {
            GorgeRow row = three();
            for (int figures = 0; figures <= 31; figures++) {
                long got = sung.of(row, 5, figures * place);
                Report.holds("taken: " + figures * place, got != GorgeRow.BAD);
            }
            place *= 100;
        }
    }

    private static void bitsOfNobody(Sung sung) {
        GorgeRow row = three();
        for (int treads = 0; treads <= 7; treads++) {
            for (int others = 8; others <= 24; others += 8) {
                Report.due("of " + (treads + others) + " as of " + treads,
                        sung.of(row, 1, treads + others), sung.of(row, 1, treads));
            }
        }
    }

    /** At LIGHT 1 a SONG is its first MINUTE alone. */
    private static void highestFirst(Sung sung) {
        GorgeRow row = Rows.of("G19W00W00W00");
        for (int treads = 0; treads <= 7; treads++) {
            long due = sung.of(row, 1, treads);
            Report.due("first " + treads + " of two", sung.of(row, 2, treads * 100L), due);
            Report.due("first " + treads + " of five, all tread", sung.of(row, 5, treads * 100000000L + 7070707), due);
            Report.due("first " + treads + " of five, nobody treads", sung.of(row, 5, treads * 100000000L), due);
        }
    }

    private static void noFartherThanLight(Sung sung) {
        for (int light = 1; light <= 4; light++) {
            GorgeRow row = Rows.of("G" + light + "9W10W10W10");
            long heard = 0;
            for (int k = 0; k < light; k++) {
                heard = heard * 100 + 7;
            }
            // Behind LIGHT nobody treads any more: it does not count.
            for (int n = light; n <= 5; n++) {
                Report.due("LIGHT " + light + ", of " + n + ", " + heard, sung.of(row, n, heard),
                        sung.of(row, light, ALL_TREAD[light]));
                heard *= 100;
            }
        }
    }

    private static void songAtLight(Sung sung) {
        GorgeRow row = Rows.of("G19W00W00W00");
        row.minute(7);
        for (int n : TAKEN_NS) {
            Report.due("of " + n + ", 0", sung.of(row, n, 0), sung.of(three(), n, ALL_TREAD[n]));
        }
    }

    private static void songChangesNothing(Sung sung) {
        for (int n : new int[] {1, 5}) {
            for (long song : new long[] {0, ALL_TREAD[n]}) {
                ToLongFunction<GorgeRow> made = row -> sung.of(row, n, song);
                String call = n + ", " + song;
                Bounds.unchanging(call, made, made.applyAsLong(Bounds.halfWay()), Bounds::halfWay);
                Bounds.unchanging(call, made, made.applyAsLong(Bounds.atLight()), Bounds::atLight);
                Bounds.unchanging(call, made, made.applyAsLong(Bounds.full()), Bounds::full);
            }
        }
    }

    // ---- promise 12

    private static void leftOfNobody() {
        GorgeRow row = new GorgeRow();
        Report.due("left(1, 0)", row.left(1, 0), 0);
        Report.due("left(5, 3131313131)", row.left(5, 3131313131L), 0);
    }

    private static void leftOfOneAndAll() {
        Report.due("left(5, 0) of one", Rows.of("G99W00").left(5, 0), 1);
        GorgeRow row = Rows.of("G99W00W00W00W00W00");
        Report.due("left(5, 3131313131)", row.left(5, 3131313131L), 31);
        Report.due("left(2, 0)", row.left(2, 0), 17);
        Report.due("left(3, 0)", row.left(3, 0), 1);
        Report.due("left(5, 0)", row.left(5, 0), 1);
    }

    private static void leftByQuiet() {
        GorgeRow row = Rows.of("G99W20W50W50");
        int[] due = {7, 7, 5};
        for (int quiet = 0; quiet <= 2; quiet++) {
            Report.due("left(1, 4), QUIET " + quiet, row.left(1, 4), due[quiet]);
            row.minute(4);
        }
    }

    // ---- promise 13

    private static void everyFirstTurn() {
        long all = 707070707;
        long place = 100000000;
        for (int minute = 0; minute <= 4; minute++) {
            // 2 is not heard in that MINUTE alone; and nobody is in it and behind it.
            long till = place * 100;
            Report.due("firstTurn in " + minute, three().firstTurn(5, all - 4 * place), minute);
            Report.due("firstTurn from " + minute + " on", three().firstTurn(5, all / till * till), minute);
            place /= 100;
        }
    }

    private static void noTurn() {
        Report.due("firstTurn(5, 606060606)", three().firstTurn(5, 606060606), GorgeRow.NONE);
        Report.due("firstTurn(5, 0), NERVE 5", Rows.of("G99W50W50").firstTurn(5, 0), GorgeRow.NONE);
        Report.due("firstTurn(5, 0), NERVE 4", Rows.of("G99W40W40").firstTurn(5, 0), 4);
    }

    private static void noTurnAheadOfLight() {
        for (int light = 1; light <= 5; light++) {
            GorgeRow bears = Rows.of("G" + light + "9W" + light + "0W00");
            Report.due("firstTurn(5, 0), LIGHT " + light, bears.firstTurn(5, 0), GorgeRow.NONE);
            GorgeRow turns = Rows.of("G" + light + "9W" + (light - 1) + "0W00");
            Report.due("firstTurn(5, 0), LIGHT " + light, turns.firstTurn(5, 0), light - 1);
        }
    }

    private static void noTurnOfFew() {
        Report.due("firstTurn(5, 0) of nobody", Rows.of("G99").firstTurn(5, 0), GorgeRow.NONE);
        Report.due("firstTurn(5, 0) of one", Rows.of("G99W00").firstTurn(5, 0), GorgeRow.NONE);
        Report.due("firstTurn(5, 0) of two", Rows.of("G99W00W00").firstTurn(5, 0), 0);
    }

    // ---- promise 14

    private static void badWhat() {
        for (int what : Bounds.outside(0, 1)) {
            Bounds.refused("order(1, 0, " + what + ")", row -> row.order(1, 0, what), GorgeRow.BAD);
        }
    }

    private static void badAll() {
        Bounds.refused("order(0, -1, 2)", row -> row.order(0, -1, 2), GorgeRow.BAD);
        Bounds.refused("order(1, 32, -1)", row -> row.order(1, 32, -1), GorgeRow.BAD);
        Bounds.refused("order(6, 0, 0)", row -> row.order(6, 0, 0), GorgeRow.BAD);
        Bounds.refused("order(1, 32, 1)", row -> row.order(1, 32, 1), GorgeRow.BAD);
    }

    private static void dueOrder(GorgeRow row, int n, long song, int figures, int many) {
        Report.due("order(" + n + ", " + song + ", 0)", row.order(n, song, 0), figures);
        Report.due("order(" + n + ", " + song + ", 1)", row.order(n, song, 1), many);
    }

    private static void orderOfNobody() {
        dueOrder(new GorgeRow(), 5, 0, 0, 0);
        dueOrder(Rows.of("G99"), 1, 31, 0, 0);
    }

    private static void orderOfOne() {
        dueOrder(Rows.of("G99W00"), 5, 0, 1, 1);
        GorgeRow left = Rows.of("G99W51W00W50");
        left.change(0);
        Rows.minutes(left, 0, 0);
        dueOrder(left, 5, 0, 2, 1);
    }

    private static void firstOfLikeOrders() {
        GorgeRow row = Rows.of("G99W50W50W50W50W50");
        for (int i : new int[] {0, 1, 2, 3, 0, 1, 2, 0, 1, 0}) {
            row.change(i);
        }
        Report.due("about(6)", row.about(6), 54321);
        dueOrder(row, 5, 0, 12345, 5);
    }

    /** Who treads the most must be the last one: 0 in five MINUTES, 4 in one. */
    private static void lastOrder() {
        GorgeRow row = Rows.of("G99W00W00W10W20W30");
        dueOrder(row, 5, 103051101, 54321, 5);
    }

    private static void orderOfOneLeft() {
        dueOrder(Rows.of("G99W00W00W00W00W00"), 5, 0, 12345, 1);
        dueOrder(Rows.of("G99W00W00W00W00W00"), 3, 0, 12345, 1);
        dueOrder(Rows.of("G99W00W00W00W00W00"), 1, 0, 12345, 3);
    }

    private static void orderWithoutLost() {
        // Of five 0, 2 and 3 are left; 2 sings and 3 is heard by none at this PLACE but by treading.
        dueOrder(Bounds.halfWay(), 1, 31, 134, 3);
        dueOrder(Bounds.atLight(), 5, 0, 134, 3);
    }

    // ---- promise 15

    private static void unknownShare() {
        for (int walkers = 0; walkers <= 5; walkers++) {
            GorgeRow row = Rows.of("G10W00W11W22W33W50".substring(0, 3 + 3 * walkers));
            for (int walker : Bounds.outside(0, walkers - 1)) {
                Report.due("share(" + walker + ") of " + walkers, row.share(walker, 1, 0, true), GorgeRow.UNKNOWN);
                Report.due("share(" + walker + ") of " + walkers, row.share(walker, 1, 0, false), GorgeRow.UNKNOWN);
            }
            for (int walker = 0; walker < walkers; walker++) {
                Report.holds("share(" + walker + ") of " + walkers, row.share(walker, 1, 31, false) >= 1);
            }
        }
    }

    private static void unknownShareChangesNothing() {
        for (int walker : Bounds.outside(0, 4)) {
            Bounds.refused("share(" + walker + ")", row -> row.share(walker, 5, 0, true), GorgeRow.UNKNOWN);
            Bounds.refused("share(" + walker + ")", row -> row.share(walker, 5, 0, false), GorgeRow.UNKNOWN);
        }
    }

    private static void unknownShareAheadOfBad() {
        Report.due("share(3, 0, 0)", three().share(3, 0, 0, true), GorgeRow.UNKNOWN);
        Report.due("share(-1, 6, 0)", three().share(-1, 6, 0, true), GorgeRow.UNKNOWN);
        Report.due("share(3, 1, 32)", three().share(3, 1, 32, false), GorgeRow.UNKNOWN);
        Report.due("share(3, 1, -1)", three().share(3, 1, -1, false), GorgeRow.UNKNOWN);
        Report.due("share(2, 1, 32)", three().share(2, 1, 32, false), GorgeRow.BAD);
        Report.due("share(0, 0, 0) of nobody", new GorgeRow().share(0, 0, 0, true), GorgeRow.UNKNOWN);
    }

    private static void dueShare(GorgeRow row, int walker, int n, long song, int upper, int lower) {
        String arguments = "(" + walker + ", " + n + ", " + song + ", ";
        Report.due("share" + arguments + "true)", row.share(walker, n, song, true), upper);
        Report.due("share" + arguments + "false)", row.share(walker, n, song, false), lower);
    }

    private static void shareOfLost() {
        dueShare(Bounds.halfWay(), 1, 5, 0, 0, 1);
        dueShare(Bounds.halfWay(), 4, 1, 31, 0, 1);
        dueShare(Bounds.atLight(), 1, 5, 3131313131L, 0, 1);
    }

    private static void badShareOfLost() {
        Bounds.refused("share(1, 0, 0)", row -> row.share(1, 0, 0, true), GorgeRow.BAD, Bounds::halfWay);
        Bounds.refused("share(4, 6, 0)", row -> row.share(4, 6, 0, true), GorgeRow.BAD, Bounds::halfWay);
        Bounds.refused("share(1, 1, 32)", row -> row.share(1, 1, 32, false), GorgeRow.BAD, Bounds::atLight);
        Bounds.refused("share(1, 1, -1)", row -> row.share(1, 1, -1, false), GorgeRow.BAD, Bounds::atLight);
    }

    private static void shareOfNothing() {
        // Alone it is 1 more; behind one of the others none, behind both 1 fewer.
        dueShare(Rows.of("G99W00W50W50"), 0, 2, 0, 0, 1);
    }

    private static void shareOfOne() {
        dueShare(Rows.of("G99W00"), 0, 5, 0, 1, 1);
        dueShare(Rows.of("G99W00"), 0, 1, 31, 1, 1);
    }

    private static void shareOfAllLeft() {
        GorgeRow row = Rows.of("G99W00W00W00W00W00");
        for (int walker = 0; walker <= 4; walker++) {
            dueShare(row, walker, 5, 3131313131L, 1, 1);
        }
    }

    private static void shareBelowNothing() {
        // Behind k of the others it makes 1 - k more, as far as the SONG goes.
        dueShare(Rows.of("G99W00W50W50W50W50"), 0, 4, 0, -1, 1);
        dueShare(Rows.of("G99W00W50W50W50"), 0, 3, 0, -1, 2);
        dueShare(Rows.of("G99W00W50W50W50W50"), 0, 3, 0, -4, 5);
    }

    private static void shareInLeastTerms() {
        // Of 2, 6, 24 and 120 orders each second one.
        dueShare(Rows.of("G19W00W00"), 0, 1, 0, 1, 2);
        dueShare(Rows.of("G99W00W50W50"), 2, 2, 0, 1, 2);
        dueShare(Rows.of("G99W00W50W50W50"), 3, 3, 0, 1, 2);
        dueShare(Rows.of("G99W00W50W50W50W50"), 4, 4, 0, 1, 2);
        dueShare(Rows.of("G99W00W00W00"), 2, 5, 0, 1, 3);
    }

    private static void sharesTogether() {
        for (long song : new long[] {0, 31, 501, 3100, 1203, 313131}) {
            GorgeRow row = Rows.of("G99W10W01W12W03W00");
            long together = 0;
            for (int walker = 0; walker <= 4; walker++) {
                together += 120L * row.share(walker, 3, song, true) / row.share(walker, 3, song, false);
            }
            Report.due("shares by " + song, together, 120L * Integer.bitCount(row.left(3, song)));
        }
    }

    // ---- promise 16

    private static void unknownBears() {
        for (int walkers = 0; walkers <= 5; walkers++) {
            GorgeRow row = Rows.of("G10W00W11W22W33W50".substring(0, 3 + 3 * walkers));
            for (int walker : Bounds.outside(0, walkers - 1)) {
                Report.due("bears(" + walker + ") of " + walkers, row.bears(walker), GorgeRow.UNKNOWN);
            }
            for (int walker = 0; walker < walkers; walker++) {
                Report.holds("bears(" + walker + ") of " + walkers, row.bears(walker) != GorgeRow.UNKNOWN);
            }
        }
    }

    private static void unknownBearsChangesNothing() {
        for (int walker : Bounds.outside(0, 4)) {
            Bounds.refused("bears(" + walker + ")", row -> row.bears(walker), GorgeRow.UNKNOWN);
        }
    }

    private static void lateBears() {
        Bounds.refused("bears(1)", row -> row.bears(1), GorgeRow.LATE, Bounds::halfWay);
        Bounds.refused("bears(4)", row -> row.bears(4), GorgeRow.LATE, Bounds::halfWay);
        Bounds.refused("bears(1)", row -> row.bears(1), GorgeRow.LATE, Bounds::atLight);
    }

    private static void bearsByNerve() {
        for (int nerve = 0; nerve <= 5; nerve++) {
            GorgeRow row = Rows.of("G99W" + nerve + "0W00");
            for (int quiet = 0; quiet <= nerve; quiet++) {
                Report.due("bears(0), NERVE " + nerve + ", QUIET " + quiet, row.bears(0), nerve + 1 - quiet);
                row.minute(0);
            }
        }
    }

    private static void bearsTillLight() {
        for (int light = 1; light <= 6; light++) {
            GorgeRow turns = Rows.of("G" + light + "9W" + (light - 1) + "0W00");
            Report.due("bears(0), LIGHT " + light, turns.bears(0), light);
        }
        for (int light = 1; light <= 5; light++) {
            GorgeRow bears = Rows.of("G" + light + "9W" + light + "0W00");
            Report.due("bears(0), LIGHT " + light, bears.bears(0), GorgeRow.NONE);
        }
    }

    private static void bearsNine() {
        Report.due("bears(0), WATER 2", Rows.of("G92W50W00").bears(0), 9);
        Report.due("bears(0), WATER 3", Rows.of("G93W50W00").bears(0), GorgeRow.NONE);
        Report.due("bears(0), LIGHT 8", Rows.of("G82W50W00").bears(0), GorgeRow.NONE);
        Report.due("bears(0), WATER 8", Rows.of("G98W50W00").bears(0), 6);
    }

    private static void bearsLostByThen() {
        GorgeRow row = Rows.of("G99W00W00W50W50");
        Report.due("bears(0)", row.bears(0), 1);
        Report.due("bears(1), LOST in the same MINUTE", row.bears(1), GorgeRow.NONE);
        Report.due("bears(2), LOST later", row.bears(2), GorgeRow.NONE);
        GorgeRow first = Rows.of("G99W10W00W50");
        Report.due("bears(1), it TURNS ahead of it", first.bears(1), 1);
        Report.due("bears(0)", first.bears(0), 2);
    }

    private static void bearsOfLast() {
        Report.due("bears(0), the only one", Rows.of("G99W00").bears(0), GorgeRow.NONE);
        Report.due("bears(4), the last one", Rows.of("G99W50W50W50W50W00").bears(4), GorgeRow.NONE);
        Report.due("bears(1), the last one by then", Rows.of("G99W50W10W00W50").bears(1), 2);
        // 0 bears 2 and loses then the one that is the last one by then.
        GorgeRow byThen = Rows.of("G99W10W00W00");
        Report.due("bears(0)", byThen.bears(0), 2);
        Report.due("bears(1), it loses 2 and is the last one", byThen.bears(1), 1);
    }

    private static void bearsOfKinds() {
        Report.due("bears(0), DEAF", Rows.of("G99W01W00").bears(0), GorgeRow.NONE);
        Report.due("bears(0), ahead of a SINGING one", Rows.of("G99W00W02").bears(0), GorgeRow.NONE);
        Report.due("bears(0), ahead of a CARRYING one", Rows.of("G99W00W03").bears(0), 1);
        Report.due("bears(0), SINGING itself", Rows.of("G99W02W00").bears(0), 1);
        Report.due("bears(0), CARRYING itself", Rows.of("G99W03W00").bears(0), 1);
    }

    private static void bearsAtLight() {
        GorgeRow row = Bounds.atLight();
        for (int walker : new int[] {0, 2, 3}) {
            Report.due("bears(" + walker + ") at LIGHT", row.bears(walker), GorgeRow.NONE);
        }
    }

    private static void bearsChangesNothing() {
        Bounds.unchanging("bears(2)", row -> row.bears(2), 1, Bounds::halfWay);
        Bounds.unchanging("bears(0)", row -> row.bears(0), GorgeRow.NONE, Bounds::halfWay);
        Bounds.unchanging("bears(0)", row -> row.bears(0), GorgeRow.NONE, Bounds::atLight);
        Bounds.unchanging("bears(4)", row -> row.bears(4), GorgeRow.NONE, Bounds::full);
    }
}
