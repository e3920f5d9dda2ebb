/** Rows as the tests need them. */
final class Rows {
    private Rows() {
    }

    static GorgeRow written(String text) {
        GorgeRow row = new GorgeRow();
        write(row, text);
        return row;
    }

    static void write(GorgeRow row, String text) {
        for (int i = 0; i < text.length(); i++) {
            row.write(text.charAt(i));
        }
    }

    /** One whose GORGE is made of a TEXT without a FAULT. */
    static GorgeRow of(String text) {
        GorgeRow row = written(text);
        Report.due("gorge() of " + text, row.gorge(), (text.length() - 3) / 3);
        return row;
    }

    /** The same one with another GORGE. */
    static void remake(GorgeRow row, String text) {
        row.wipe();
        write(row, text);
        Report.due("gorge() of " + text, row.gorge(), (text.length() - 3) / 3);
    }

    static void minutes(GorgeRow row, int... treads) {
        for (int bits : treads) {
            row.minute(bits);
        }
    }

    /** All that an object tells of itself, without what only asking changes (THE SEED is put back). */
    static String told(GorgeRow row) {
        StringBuilder told = new StringBuilder();
        for (int what = 0; what <= 10; what++) {
            told.append(row.about(what)).append(' ');
        }
        told.append("fault ").append(row.fault()).append(" walkers ");
        for (int walker = 0; walker < row.about(0); walker++) {
            for (int what = 0; what <= 4; what++) {
                told.append(row.walker(walker, what)).append(' ');
            }
        }
        long seed = row.seed(0);
        row.seed(seed);
        told.append("told ").append(row.letGo(true)).append(' ').append(row.letGo(false));
        told.append(" seed ").append(seed);
        return told.toString();
    }

    /** told, with what can only be learnt by undoing and going on: the object is used up by it. */
    static String toldToTheEnd(GorgeRow row) {
        StringBuilder told = new StringBuilder(told(row));
        for (int undone = row.undo(); undone >= 0; undone = row.undo()) {
            told.append(" undone ").append(told(row));
        }
        for (int slot = 0; slot <= 1; slot++) {
            told.append(" slot ").append(row.again(slot)).append(' ').append(told(row));
        }
        return told.toString();
    }
}
