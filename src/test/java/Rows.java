/** Rows as the tests need them. */
final class Rows {
    private static final int MORE_THAN_ALL_ACTS = 20;

    private Rows() {
    }

    static GorgeRow written(String text) {
        GorgeRow row = new GorgeRow();
        write(row, text);
        return row;
    }

    static void write(GorgeRow row, String text) {
        for (int i = 0; i < text.length(); i++) {
            row.write(text.charAt(i));
        }
    }

    /** One whose GORGE is made of a TEXT without a FAULT. */
    static GorgeRow of(String text) {
        GorgeRow row = written(text);
        Report.due("gorge() of " + text, row.gorge(), (text.length() - 3) / 3);
        return row;
    }

    /** The same one with another GORGE. */
    static void remake(GorgeRow row, String text) {
        row.wipe();
        write(row, text);
        Report.due("gorge() of " + text, row.gorge(), (text.length() - 3) / 3);
    }

    static void minutes(GorgeRow row, int... treads) {
        for (int bits : treads) {
            row.minute(bits);
        }
    }

    /** All that an object tells of itself, without what only asking changes (THE SEED is put back). */
    static String told(GorgeRow row) {
        StringBuilder told = new StringBuilder();
        for (int what = 0; what <= 10; what++) {
            told.append(row.about(what)).append(' ');
        }
        told.append("fault ").append(row.fault()).append(" walkers ");
        for (int walker = 0; walker < row.about(0); walker++) {
            for (int what = 0; what <= 4; what++) {
                told.append(row.walker(walker, what)).append(' ');
            }
        }
        long seed = row.seed(0);
        row.seed(seed);
        told.append("told ").append(row.letGo(true)).append(' ').append(row.letGo(false));
        told.append(" seed ").append(seed);
        return told.toString();
    }

    /** THE ROW, who is LOST, QUIET and PLACE: what ACTS change and SLOTS keep. */
    static String walk(GorgeRow row) {
        StringBuilder walk = new StringBuilder("at ").append(row.about(3));
        walk.append(" row ").append(row.about(6)).append(" lost ").append(row.about(5)).append(" quiet");
        for (int walker = 0; walker < row.about(0); walker++) {
            walk.append(' ').append(row.walker(walker, 2));
        }
        return walk.append(' ').toString();
    }

    /**
     * told, with what can only be learnt by undoing, going on and making THE GORGE anew: the object
     * is used up by it, by some 250 calls.
     */
    static String toldToTheEnd(GorgeRow row) {
        StringBuilder told = new StringBuilder(told(row));
        int undone = row.undo();
        for (int k = 0; k < MORE_THAN_ALL_ACTS && undone >= 0; k++) {
            told.append("undone ").append(undone).append(' ').append(walk(row));
            undone = row.undo();
        }
        told.append("none left ").append(undone);
        for (int slot = 0; slot <= 1; slot++) {
            told.append(" slot ").append(row.again(slot)).append(' ').append(walk(row));
        }
        told.append("gorge ").append(row.gorge()).append(' ').append(told(row));
        return told.toString();
    }
}
