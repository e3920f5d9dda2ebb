import java.util.LinkedHashMap;
import java.util.Map;
import java.util.function.Supplier;
import java.util.function.ToLongFunction;

/** What the tests of boundaries share: numbers that are not taken, and what a refusal may not change. */
final class Bounds {
    /** Rows from nothing there yet to all full, each made anew when it is asked for. */
    private static final Map<String, Supplier<GorgeRow>> ALL_SORTS = new LinkedHashMap<>();

    static {
        ALL_SORTS.put("a new one", GorgeRow::new);
        ALL_SORTS.put("one half-way", Bounds::halfWay);
        ALL_SORTS.put("one at LIGHT", Bounds::atLight);
        ALL_SORTS.put("a full one", Bounds::full);
    }

    private Bounds() {
    }

    /** Numbers below and above what is taken: the next ones, some that wrap to a taken one, the farthest. */
    static int[] outside(int least, int greatest) {
        return new int[] {least - 1, greatest + 1, least - 32, greatest + 32, least - 256, greatest + 256,
            Integer.MIN_VALUE, Integer.MAX_VALUE};
    }

    /** On the way, with a QUIET, a LOST one, ACTS, TOLD, THE SEED, one slot; THE TEXT is another GORGE. */
    static GorgeRow halfWay() {
        GorgeRow row = Rows.of("G98W10W51W12W03W00");
        row.tell(2, true);
        row.tell(5, false);
        row.seed(-77);
        Rows.minutes(row, 16);
        row.change(1);
        row.keep(1);
        row.rest();
        Rows.minutes(row, 0, 8, 0);
        Report.holds("half-way: " + Rows.walk(row),
                Rows.walk(row).equals("at 4 row 134 lost 18 quiet 0 2 1 0 0 "));
        row.wipe();
        Rows.write(row, "G54W21W30");
        return row;
    }

    /** Out, with a LOST one and a QUIET; both slots; THE TEXT has a FAULT. */
    static GorgeRow atLight() {
        GorgeRow row = Rows.of("G29W10W50W51W03");
        row.tell(0, false);
        row.seed(Long.MAX_VALUE);
        row.keep(0);
        Rows.minutes(row, 0);
        row.keep(1);
        Rows.minutes(row, 0);
        Report.due("about(10), at LIGHT", row.about(10), 1);
        Report.holds("at LIGHT: " + Rows.walk(row), Rows.walk(row).equals("at 2 row 134 lost 2 quiet 0 2 2 0 "));
        row.write('w');
        return row;
    }

    /** As many bytes, WALKERS, ACTS, TOLD ones and kept ones as there can be. */
    static GorgeRow full() {
        GorgeRow row = Rows.of("G99W51W52W53W50W41");
        row.keep(0);
        for (int act = 0; act < 5; act++) {
            row.minute(act);
            row.change(act % 4);
            row.rest();
        }
        row.minute(0);
        row.keep(1);
        for (int told = 0; told < 6; told++) {
            row.tell(told, told % 2 == 0);
        }
        row.seed(Long.MIN_VALUE);
        for (int length = 18; length < 32; length++) {
            row.write(255);
        }
        Report.due("ACTS of a full one", row.about(7), 14);
        Report.due("TOLD of a full one", row.about(8), 6);
        Report.due("bytes of a full one", row.about(9), 32);
        return row;
    }

    /** The call is refused, whatever there is already; and nothing is changed by it. */
    static void refused(String call, ToLongFunction<GorgeRow> made, int due) {
        ALL_SORTS.forEach((sort, alike) -> refused(call + " of " + sort, made, due, alike));
    }

    /** The call is made of one of two rows that are alike; behind it they must tell the same. */
    static void refused(String call, ToLongFunction<GorgeRow> made, int due, Supplier<GorgeRow> alike) {
        Report.holds(call + ": what is due is a refusal", due <= GorgeRow.UNKNOWN && due >= GorgeRow.FULL);
        unchanging(call, made, due, alike);
    }

    /** As refused, of a call that is answered. */
    static void unchanging(String call, ToLongFunction<GorgeRow> made, long due, Supplier<GorgeRow> alike) {
        GorgeRow row = alike.get();
        Report.due(call, made.applyAsLong(row), due);
        String told = Rows.toldToTheEnd(row);
        String toldOfOther = Rows.toldToTheEnd(alike.get());
        Report.holds("nothing is changed by " + call + ":\n" + told + "\n" + toldOfOther, told.equals(toldOfOther));
    }
}
