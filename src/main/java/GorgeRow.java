/**
 * A row of people led out of a gorge, each by the one ahead, who may not turn round.
 * What each call answers is told by the promises of the project's document.
 */
public final class GorgeRow {
    public static final int UNKNOWN = -1, BAD = -2, LATE = -3, FULL = -4, NONE = -9;

    private static final int MOST_WALKERS = 5;
    private static final int MOST_ORDERS = 120;
    private static final int MOST_BYTES = 32;
    private static final int MOST_ACTS = 14;
    private static final int MOST_TOLD = 6;
    private static final int LAST_TOLD_MINUTE = 8;
    private static final int NOT_AT_ALL = 9;
    /** Rows of so many are more than 50, if there are two colours or more. */
    private static final int ENOUGH_PEBBLES = 6;
    private static final int DEAF = 1, SINGING = 2, CARRYING = 3;
    /** No state of a walk: those are never less than 0. */
    private static final long NOT_KEPT = -1;

    private final Text text = new Text();
    private final Path path = new Path();
    private final Walk now = new Walk(path);
    /** Walks what is only asked for, so that nothing changes by asking and no call makes an object. */
    private final Walk trial = new Walk(path);
    /** How they were ahead of each ACT, so that the last ones can be undone. */
    private final long[] acts = new long[MOST_ACTS];
    private int actCount = 0;
    private final long[] kept = {NOT_KEPT, NOT_KEPT};
    private int heardMinutes = 0;
    private int silentMinutes = 0;
    private int toldCount = 0;
    private long seedNow = 0;

    public GorgeRow() {
    }

    // ---- the gorge

    public int write(int letter) {
        if (!within(letter, 0, 255)) {
            return BAD;
        }
        return text.append(letter) ? text.length() : FULL;
    }

    public int wipe() {
        int length = text.length();
        text.clear();
        return length;
    }

    public int fault() {
        return text.firstFault();
    }

    public int gorge() {
        if (text.firstFault() != NONE) {
            return LATE;
        }
        path.read(text);
        now.start();
        actCount = 0;
        forgetKept();
        return path.walkers();
    }

    public int about(int what) {
        switch (what) {
            case 0: return path.walkers();
            case 1: return path.light();
            case 2: return path.water();
            case 3: return now.place();
            case 4: return now.members();
            case 5: return path.everybody() & ~now.members();
            case 6: return Cells.figures(now.row());
            case 7: return actCount;
            case 8: return toldCount;
            case 9: return text.length();
            case 10: return now.isOut() ? 1 : 0;
            default: return BAD;
        }
    }

    public int walker(int walker, int what) {
        if (!path.has(walker)) {
            return UNKNOWN;
        }
        switch (what) {
            case 0: return path.nerve(walker);
            case 1: return path.kind(walker);
            case 2: return now.quiet(walker);
            case 3: return now.indexOf(walker);
            case 4: return now.behind(walker);
            default: return BAD;
        }
    }

    // ---- acts

    public int minute(int treads) {
        if (!within(treads, 0, path.everybody())) {
            return BAD;
        }
        if (now.isOut()) {
            return LATE;
        }
        remember();
        return now.step(treads);
    }

    public int change(int i) {
        if (!within(i, 0, MOST_WALKERS - 2)) {
            return BAD;
        }
        if (now.isOut() || i + 1 >= now.size()) {
            return LATE;
        }
        remember();
        now.changePlaces(i);
        return Cells.figures(now.row());
    }

    public int rest() {
        if (now.isOut()) {
            return LATE;
        }
        remember();
        return now.calm();
    }

    public int undo() {
        if (!within(actCount, 1, acts.length)) {
            return LATE;
        }
        actCount--;
        now.become(acts[actCount]);
        return actCount;
    }

    /** To be called ahead of each ACT. */
    private void remember() {
        if (actCount >= acts.length) {
            System.arraycopy(acts, 1, acts, 0, acts.length - 1);
            actCount = acts.length - 1;
        }
        if (actCount >= 0) {
            acts[actCount] = now.state();
            actCount++;
        }
    }

    // ---- songs

    public int left(int n, long song) {
        if (!isSong(n, song)) {
            return BAD;
        }
        trial.become(now.state());
        trial.sing(n, song);
        return trial.members();
    }

    public int firstTurn(int n, long song) {
        if (!isSong(n, song)) {
            return BAD;
        }
        trial.become(now.state());
        return trial.sing(n, song);
    }

    public int order(int n, long song, int what) {
        if (!isSong(n, song) || !within(what, 0, 1)) {
            return BAD;
        }
        int best = Cells.ascending(now.members());
        int most = leftOf(best, n, song);
        int row = Cells.nextOrder(best);
        for (int tries = 1; tries < MOST_ORDERS && row != 0; tries++) {
            int count = leftOf(row, n, song);
            // Only more counts: of like ones the first by WALKERS has come ahead.
            if (count > most) {
                most = count;
                best = row;
            }
            row = Cells.nextOrder(row);
        }
        return what == 0 ? Cells.figures(best) : most;
    }

    public int share(int walker, int n, long song, boolean upper) {
        if (!path.has(walker)) {
            return UNKNOWN;
        }
        if (!isSong(n, song)) {
            return BAD;
        }
        int row = now.row();
        int others = now.members() & ~(1 << walker);
        if (others == now.members()) {
            return fraction(0, 1, upper);
        }
        int size = now.size();
        long gains = 0;
        for (int came = 0; came <= others; came++) {
            if ((came & ~others) == 0) {
                int count = Integer.bitCount(came);
                int gain = leftOf(Cells.only(row, came | 1 << walker), n, song)
                        - leftOf(Cells.only(row, came), n, song);
                gains += gain * factorial(count) * factorial(size - 1 - count);
            }
        }
        return fraction(gains, factorial(size), upper);
    }

    public int bears(int walker) {
        if (!path.has(walker)) {
            return UNKNOWN;
        }
        if (now.indexOf(walker) == NONE) {
            return LATE;
        }
        trial.become(now.state());
        int minutes = path.light() - now.place();
        for (int k = 1; k <= minutes; k++) {
            trial.step(0);
            if ((trial.turned() >> walker & 1) == 1) {
                return k;
            }
        }
        return NONE;
    }

    /** How many are left of a row behind a SONG, if it starts from here with QUIET 0. */
    private int leftOf(int row, int n, long song) {
        trial.lineUp(row, now.place());
        trial.sing(n, song);
        return trial.size();
    }

    private static boolean isSong(int n, long song) {
        if (!within(n, 1, 5) || song < 0) {
            return false;
        }
        long ahead = song;
        for (int k = 0; k < n; k++) {
            if (ahead % 100 > 31) {
                return false;
            }
            ahead /= 100;
        }
        return ahead == 0;
    }

    // ---- heard

    public int still(int n, int heard, int x, int y, boolean upper) {
        if (!within(n, 1, 4) || !within(heard, 0, (1 << n) - 1) || !isTenths(x) || !isTenths(y)) {
            return BAD;
        }
        // Both chances are taken 100 times for each MINUTE, so that they stay whole numbers.
        long there = 1;
        long gone = 0;
        for (int k = 0; k < n; k++) {
            boolean isHeard = (heard >> k & 1) == 1;
            gone = isHeard ? 0 : gone * 100 + there * y * 10;
            there = there * (10 - y) * (isHeard ? x : 10 - x);
        }
        return there + gone == 0 ? LATE : fraction(there, there + gone, upper);
    }

    public int pebbles(int c, int n, boolean found) {
        if (!within(c, 1, 5) || !within(n, 0, 50)) {
            return BAD;
        }
        int rows = 1;
        int count = 0;
        while (count < ENOUGH_PEBBLES && rows <= n) {
            rows *= c;
            count++;
        }
        if (rows <= n) {
            return NONE;
        }
        // Found needs rows that differ twice. One more pebble, told by the sum of the others, does
        // it; no fewer do, as such rows still differ when each one's last pebble is left away.
        return found && n > 0 ? count + 1 : count;
    }

    public int tell(int t, boolean heard) {
        if (!within(t, 0, LAST_TOLD_MINUTE)) {
            return BAD;
        }
        if (toldCount >= MOST_TOLD) {
            return FULL;
        }
        if (heard) {
            heardMinutes |= 1 << t;
        } else {
            silentMinutes |= 1 << t;
        }
        toldCount++;
        return toldCount;
    }

    public int untell() {
        int count = toldCount;
        heardMinutes = 0;
        silentMinutes = 0;
        toldCount = 0;
        return count;
    }

    public int letGo(boolean sings) {
        int agreeing = 0;
        for (int g = 0; g <= NOT_AT_ALL; g++) {
            int ahead = (1 << g) - 1;
            boolean soundsAgree = (heardMinutes & ~ahead) == 0;
            boolean silenceAgrees = !sings || (silentMinutes & ahead) == 0;
            if (soundsAgree && silenceAgrees) {
                agreeing |= 1 << g;
            }
        }
        return agreeing;
    }

    public int link(int v, int x, int n, boolean upper) {
        if (!within(v, 0, 5) || !isTenths(x) || !within(n, 0, 6)) {
            return BAD;
        }
        long holding = 0;
        for (int heard = 0; heard < 1 << n; heard++) {
            if (longestSilence(heard, n) <= v) {
                int count = Integer.bitCount(heard);
                holding += power(x, count) * power(10 - x, n - count);
            }
        }
        return fraction(holding, power(10, n), upper);
    }

    public long seed(long v) {
        long was = seedNow;
        seedNow = v;
        return was;
    }

    public int gorges(int m) {
        if (!within(m, 1, 20)) {
            return BAD;
        }
        int minutes = path.light() - now.place();
        int out = 0;
        for (int time = 0; time < m; time++) {
            trial.become(now.state());
            for (int k = 0; k < minutes; k++) {
                seedNow = seedNow * 6364136223846793005L + 1442695040888963407L;
                trial.step((int) (seedNow >>> 33) & 31);
            }
            out += trial.size();
        }
        return out;
    }

    private static int longestSilence(int heard, int n) {
        int longest = 0;
        int silence = 0;
        for (int k = 0; k < n; k++) {
            silence = (heard >> k & 1) == 1 ? 0 : silence + 1;
            longest = Math.max(longest, silence);
        }
        return longest;
    }

    // ---- slots

    public int keep(int slot) {
        if (!within(slot, 0, kept.length - 1)) {
            return UNKNOWN;
        }
        kept[slot] = now.state();
        return now.place();
    }

    public int again(int slot) {
        if (!within(slot, 0, kept.length - 1)) {
            return UNKNOWN;
        }
        if (kept[slot] == NOT_KEPT) {
            return LATE;
        }
        now.become(kept[slot]);
        actCount = 0;
        return now.place();
    }

    private void forgetKept() {
        for (int slot = 0; slot < kept.length; slot++) {
            kept[slot] = NOT_KEPT;
        }
    }

    // ---- numbers

    private static boolean within(int number, int least, int most) {
        return number >= least && number <= most;
    }

    private static boolean isTenths(int number) {
        return within(number, 0, 10);
    }

    private static int factorial(int number) {
        int product = 1;
        for (int k = 2; k <= number; k++) {
            product *= k;
        }
        return product;
    }

    private static long power(int base, int exponent) {
        long product = 1;
        for (int k = 0; k < exponent; k++) {
            product *= base;
        }
        return product;
    }

    /** One number of a fraction in least terms; lower is more than 0. */
    private static int fraction(long upper, long lower, boolean wantsUpper) {
        long divisor = commonDivisor(Math.abs(upper), lower);
        if (divisor == 0) {
            return 0;
        }
        return (int) ((wantsUpper ? upper : lower) / divisor);
    }

    private static long commonDivisor(long a, long b) {
        long larger = a;
        long smaller = b;
        // Euclid's way is at its end long before: a long takes fewer than 100 steps.
        for (int k = 0; k < 100 && smaller != 0; k++) {
            long remainder = larger % smaller;
            larger = smaller;
            smaller = remainder;
        }
        return larger;
    }

    /**
     * Five small numbers (0 .. 15) in one int, so that a state is copied as a number and no
     * place of them can be outside an array. As a ROW: WALKERS, 1 more each, 0 behind the last.
     */
    private static final class Cells {
        static int at(int cells, int i) {
            return cells >>> 4 * i & 15;
        }

        static int with(int cells, int i, int number) {
            return cells & ~(15 << 4 * i) | number << 4 * i;
        }

        static int swapped(int cells, int i, int j) {
            return with(with(cells, i, at(cells, j)), j, at(cells, i));
        }

        /** Those behind the one that is taken out come a place ahead. */
        static int without(int row, int i) {
            int ahead = (1 << 4 * i) - 1;
            return row & ahead | row >>> 4 & ~ahead;
        }

        static int size(int row) {
            int size = 0;
            while (size < MOST_WALKERS && at(row, size) != 0) {
                size++;
            }
            return size;
        }

        static int members(int row) {
            int bits = 0;
            for (int i = 0; i < size(row); i++) {
                bits |= 1 << at(row, i) - 1;
            }
            return bits;
        }

        static int figures(int row) {
            int figures = 0;
            for (int i = 0; i < size(row); i++) {
                figures = figures * 10 + at(row, i);
            }
            return figures;
        }

        static int only(int row, int bits) {
            int chosen = row;
            for (int i = size(row) - 1; i >= 0; i--) {
                if ((bits >> at(row, i) - 1 & 1) == 0) {
                    chosen = without(chosen, i);
                }
            }
            return chosen;
        }

        static int ascending(int bits) {
            int row = 0;
            int size = 0;
            for (int walker = 0; walker < MOST_WALKERS; walker++) {
                if ((bits >> walker & 1) == 1) {
                    row = with(row, size, walker + 1);
                    size++;
                }
            }
            return row;
        }

        /** The next order of the same ones by their numbers; 0 behind the last order. */
        static int nextOrder(int row) {
            int last = size(row) - 1;
            int i = last - 1;
            while (i >= 0 && at(row, i) > at(row, i + 1)) {
                i--;
            }
            if (i < 0) {
                return 0;
            }
            int j = last;
            while (j > i + 1 && at(row, j) < at(row, i)) {
                j--;
            }
            int next = swapped(row, i, j);
            int back = last;
            for (int front = i + 1; front < back; front++) {
                next = swapped(next, front, back);
                back--;
            }
            return next;
        }
    }

    /** What was written, and whether it is a GORGE. */
    private static final class Text {
        private static final int HEAD = 3, PART = 3;

        private final int[] bytes = new int[MOST_BYTES];
        private int length = 0;

        int length() {
            return length;
        }

        boolean append(int letter) {
            if (length < 0 || length >= bytes.length) {
                return false;
            }
            bytes[length] = letter;
            length++;
            return true;
        }

        void clear() {
            length = 0;
        }

        int parts() {
            return (length - HEAD) / PART;
        }

        int figure(int i) {
            return byteAt(i) - '0';
        }

        int nerve(int part) {
            return figure(HEAD + part * PART + 1);
        }

        int kind(int part) {
            return figure(HEAD + part * PART + 2);
        }

        int firstFault() {
            for (int i = 0; i < length; i++) {
                if (!fits(i)) {
                    return i;
                }
            }
            boolean isWhole = length >= HEAD && (length - HEAD) % PART == 0;
            return isWhole ? NONE : length;
        }

        private boolean fits(int i) {
            switch (i) {
                case 0: return byteAt(i) == 'G';
                case 1: return within(figure(i), 1, 9);
                case 2: return within(figure(i), 0, 9);
                default: return i < HEAD + MOST_WALKERS * PART && fitsPart(i);
            }
        }

        private boolean fitsPart(int i) {
            switch ((i - HEAD) % PART) {
                case 0: return byteAt(i) == 'W';
                case 1: return within(figure(i), 0, 5);
                default: return within(figure(i), 0, 3);
            }
        }

        private int byteAt(int i) {
            return i >= 0 && i < bytes.length ? bytes[i] : 0;
        }
    }

    /** THE GORGE as it was told: what does not change while they walk. */
    private static final class Path {
        private int walkers = 0;
        private int light = 1;
        private int water = 9;
        private int nerves = 0;
        private int kinds = 0;

        void read(Text text) {
            light = text.figure(1);
            water = text.figure(2);
            walkers = text.parts();
            for (int walker = 0; walker < walkers; walker++) {
                nerves = Cells.with(nerves, walker, text.nerve(walker));
                kinds = Cells.with(kinds, walker, text.kind(walker));
            }
        }

        int walkers() {
            return walkers;
        }

        int light() {
            return light;
        }

        int water() {
            return water;
        }

        boolean has(int walker) {
            return within(walker, 0, walkers - 1);
        }

        int everybody() {
            return (1 << walkers) - 1;
        }

        int nerve(int walker) {
            return Cells.at(nerves, walker);
        }

        int kind(int walker) {
            return Cells.at(kinds, walker);
        }
    }

    /** Who walks in which order, how long each heard nothing, and where they are. */
    private static final class Walk {
        private static final int CELL_BITS = 20, CELLS = (1 << CELL_BITS) - 1;

        private final Path path;
        private int row = 0;
        /** By WALKER; of those that are LOST what it was then. */
        private int quiets = 0;
        private int place = 0;
        private int turned = 0;

        Walk(Path path) {
            this.path = path;
        }

        int row() {
            return row;
        }

        int place() {
            return place;
        }

        int size() {
            return Cells.size(row);
        }

        int members() {
            return Cells.members(row);
        }

        boolean isOut() {
            return place >= path.light();
        }

        int quiet(int walker) {
            return Cells.at(quiets, walker);
        }

        /** Bits of those that TURNED in the MINUTE that was walked last. */
        int turned() {
            return turned;
        }

        int indexOf(int walker) {
            for (int i = 0; i < size(); i++) {
                if (walkerAt(i) == walker) {
                    return i;
                }
            }
            return NONE;
        }

        int behind(int walker) {
            int i = indexOf(walker);
            return i == NONE || i + 1 >= size() ? NONE : walkerAt(i + 1);
        }

        void start() {
            lineUp(Cells.ascending(path.everybody()), 0);
        }

        void lineUp(int newRow, int newPlace) {
            row = newRow;
            quiets = 0;
            place = newPlace;
        }

        /** All that a walk is, for become; never less than 0. */
        long state() {
            return ((long) place << CELL_BITS | quiets) << CELL_BITS | row;
        }

        void become(long state) {
            row = (int) state & CELLS;
            quiets = (int) (state >>> CELL_BITS) & CELLS;
            place = (int) (state >>> 2 * CELL_BITS);
        }

        void changePlaces(int i) {
            row = Cells.swapped(row, i, i + 1);
            setQuiet(walkerAt(i), 0);
            setQuiet(walkerAt(i + 1), 0);
        }

        /** A REST; how many had a QUIET. */
        int calm() {
            int count = 0;
            for (int i = 0; i < size(); i++) {
                if (quiet(walkerAt(i)) > 0) {
                    count++;
                    setQuiet(walkerAt(i), 0);
                }
            }
            return count;
        }

        /** A SONG; the first MINUTE of it in which somebody TURNS, or NONE. */
        int sing(int n, long song) {
            int first = NONE;
            for (int k = 0; k < n && !isOut(); k++) {
                step(treadsOf(song, n - 1 - k));
                if (turned != 0 && first == NONE) {
                    first = k;
                }
            }
            return first;
        }

        /** A MINUTE at a PLACE less than LIGHT; who is LOST by it, as bits. */
        int step(int treads) {
            int last = size() - 1;
            for (int i = 0; i < last; i++) {
                int walker = walkerAt(i);
                boolean hears = path.kind(walker) != DEAF && isHeard(walkerAt(i + 1), treads);
                setQuiet(walker, hears ? 0 : quiet(walker) + 1);
            }
            int lost = turnRound();
            place++;
            return lost;
        }

        private boolean isHeard(int walker, int treads) {
            int kind = path.kind(walker);
            boolean treadsSo = (treads >> walker & 1) == 1;
            boolean muffled = kind == CARRYING && place % 2 != 0;
            return place == path.water() || kind == SINGING || treadsSo && !muffled;
        }

        private int turnRound() {
            turned = 0;
            int lost = 0;
            for (int i = 0; i + 1 < Cells.size(row); i++) {
                int walker = walkerAt(i);
                if (path.kind(walker) != DEAF && quiet(walker) > path.nerve(walker)) {
                    turned |= 1 << walker;
                    lost |= 1 << walkerAt(i + 1);
                    row = Cells.without(row, i + 1);
                    setQuiet(walker, 0);
                }
            }
            return lost;
        }

        private int walkerAt(int i) {
            return Cells.at(row, i) - 1;
        }

        private void setQuiet(int walker, int quiet) {
            quiets = Cells.with(quiets, walker, quiet);
        }

        /** The bits of a SONG's MINUTE that has so many behind it. */
        private static int treadsOf(long song, int behind) {
            long ahead = song;
            for (int k = 0; k < behind; k++) {
                ahead /= 100;
            }
            return (int) (ahead % 100);
        }
    }
}
