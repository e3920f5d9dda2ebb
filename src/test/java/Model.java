import java.math.BigInteger;
import java.util.ArrayDeque;
import java.util.ArrayList;
import java.util.Arrays;
import java.util.Collections;
import java.util.Deque;
import java.util.HashMap;
import java.util.List;
import java.util.Map;
import java.util.regex.Matcher;
import java.util.regex.Pattern;

/**
 * The document once more, in the plainest words of the library and by trying all that can be,
 * so that GorgeRow can be held against something that was not made of the same thoughts.
 */
final class Model {
    private static final Pattern GORGE = Pattern.compile("G[1-9][0-9](W[0-5][0-3]){0,5}");
    private static final BigInteger MULTIPLIER = new BigInteger("6364136223846793005");
    private static final BigInteger ADDEND = new BigInteger("1442695040888963407");
    private static final BigInteger ALL_BITS = BigInteger.ONE.shiftLeft(64);

    private static final class They {
        List<Integer> row = new ArrayList<>();
        int[] quiet = new int[5];
        int place = 0;
        List<Integer> lost = new ArrayList<>();
        List<Integer> turned = new ArrayList<>();

        They copy() {
            They copy = new They();
            copy.row = new ArrayList<>(row);
            copy.quiet = quiet.clone();
            copy.place = place;
            copy.lost = new ArrayList<>(lost);
            return copy;
        }
    }

    private String text = "";
    private String gorge = "G19";
    private They they = new They();
    private final Deque<They> acts = new ArrayDeque<>();
    private final Map<Integer, They> slots = new HashMap<>();
    private final List<int[]> told = new ArrayList<>();
    private long seed = 0;

    // ---- the gorge

    int write(int letter) {
        if (letter < 0 || letter > 255) {
            return -2;
        }
        if (text.length() == 32) {
            return -4;
        }
        text += (char) letter;
        return text.length();
    }

    int wipe() {
        int length = text.length();
        text = "";
        return length;
    }

    int fault() {
        Matcher whole = GORGE.matcher(text);
        if (whole.matches()) {
            return -9;
        }
        for (int length = 1; length <= text.length(); length++) {
            Matcher begun = GORGE.matcher(text.substring(0, length));
            if (!begun.matches() && !begun.hitEnd()) {
                return length - 1;
            }
        }
        return text.length();
    }

    int gorge() {
        if (fault() != -9) {
            return -3;
        }
        gorge = text;
        they = new They();
        for (int walker = 0; walker < walkers(); walker++) {
            they.row.add(walker);
        }
        acts.clear();
        slots.clear();
        return walkers();
    }

    private int walkers() {
        return gorge.length() / 3 - 1;
    }

    private int light() {
        return gorge.charAt(1) - '0';
    }

    private int water() {
        return gorge.charAt(2) - '0';
    }

    private int nerve(int walker) {
        return gorge.charAt(4 + 3 * walker) - '0';
    }

    private boolean is(int walker, String kind) {
        return gorge.charAt(5 + 3 * walker) - '0' == Arrays.asList("plain", "deaf", "singing", "carrying").indexOf(kind);
    }

    int about(int what) {
        switch (what) {
            case 0: return walkers();
            case 1: return light();
            case 2: return water();
            case 3: return they.place;
            case 4: return bits(they.row);
            case 5: return bits(they.lost);
            case 6: return figures(they.row);
            case 7: return acts.size();
            case 8: return told.size();
            case 9: return text.length();
            case 10: return they.place == light() ? 1 : 0;
            default: return -2;
        }
    }

    int walker(int walker, int what) {
        if (walker < 0 || walker >= walkers()) {
            return -1;
        }
        int at = they.row.indexOf(walker);
        switch (what) {
            case 0: return nerve(walker);
            case 1: return gorge.charAt(5 + 3 * walker) - '0';
            case 2: return they.quiet[walker];
            case 3: return at < 0 ? -9 : at;
            case 4: return at < 0 || at == they.row.size() - 1 ? -9 : they.row.get(at + 1);
            default: return -2;
        }
    }

    // ---- acts

    int minute(int treads) {
        if (treads < 0 || treads > Math.pow(2, walkers()) - 1) {
            return -2;
        }
        if (they.place == light()) {
            return -3;
        }
        act();
        List<Integer> before = new ArrayList<>(they.row);
        walk(they, treads);
        before.removeAll(they.row);
        return bits(before);
    }

    int change(int i) {
        if (i < 0 || i > 3) {
            return -2;
        }
        if (i > they.row.size() - 2 || they.place == light()) {
            return -3;
        }
        act();
        Collections.swap(they.row, i, i + 1);
        they.quiet[they.row.get(i)] = 0;
        they.quiet[they.row.get(i + 1)] = 0;
        return figures(they.row);
    }

    int rest() {
        if (they.place == light()) {
            return -3;
        }
        act();
        int had = 0;
        for (int walker : they.row) {
            had += they.quiet[walker] == 0 ? 0 : 1;
            they.quiet[walker] = 0;
        }
        return had;
    }

    int undo() {
        if (acts.isEmpty()) {
            return -3;
        }
        they = acts.removeLast();
        return acts.size();
    }

    private void act() {
        acts.addLast(they.copy());
        if (acts.size() > 14) {
            acts.removeFirst();
        }
    }

    private void walk(They those, long treads) {
        List<Integer> row = those.row;
        boolean[] hears = new boolean[5];
        for (int i = 0; i + 1 < row.size(); i++) {
            int behind = row.get(i + 1);
            boolean heard = (treads & 1L << behind) != 0;
            if (is(behind, "carrying") && those.place % 2 == 1) {
                heard = false;
            }
            if (is(behind, "singing") || those.place == water()) {
                heard = true;
            }
            hears[row.get(i)] = heard && !is(row.get(i), "deaf");
        }
        for (int walker : row.subList(0, Math.max(0, row.size() - 1))) {
            those.quiet[walker] = hears[walker] ? 0 : those.quiet[walker] + 1;
        }
        those.turned.clear();
        for (int walker : new ArrayList<>(row)) {
            int at = row.indexOf(walker);
            boolean hasOneBehind = at >= 0 && at < row.size() - 1;
            if (hasOneBehind && !is(walker, "deaf") && those.quiet[walker] > nerve(walker)) {
                those.lost.add(row.remove(at + 1));
                those.quiet[walker] = 0;
                those.turned.add(walker);
            }
        }
        those.place++;
    }

    // ---- songs

    int left(int n, long song) {
        long[] minutes = minutes(n, song);
        if (minutes == null) {
            return -2;
        }
        They those = they.copy();
        sing(those, minutes);
        return bits(those.row);
    }

    int firstTurn(int n, long song) {
        long[] minutes = minutes(n, song);
        return minutes == null ? -2 : sing(they.copy(), minutes);
    }

    int order(int n, long song, int what) {
        long[] minutes = minutes(n, song);
        if (minutes == null || what < 0 || what > 1) {
            return -2;
        }
        int best = 0;
        int most = -1;
        for (List<Integer> order : orders(they.row)) {
            int left = leftOf(order, minutes);
            if (left > most || left == most && figures(order) < best) {
                most = left;
                best = figures(order);
            }
        }
        return what == 0 ? best : most;
    }

    int share(int walker, int n, long song, boolean upper) {
        long[] minutes = minutes(n, song);
        if (walker < 0 || walker >= walkers()) {
            return -1;
        }
        if (minutes == null) {
            return -2;
        }
        if (!they.row.contains(walker)) {
            return upper ? 0 : 1;
        }
        long more = 0;
        List<List<Integer>> orders = orders(they.row);
        for (List<Integer> order : orders) {
            List<Integer> without = new ArrayList<>(they.row);
            without.retainAll(order.subList(0, order.indexOf(walker)));
            List<Integer> with = new ArrayList<>(they.row);
            with.retainAll(order.subList(0, order.indexOf(walker) + 1));
            more += leftOf(with, minutes) - leftOf(without, minutes);
        }
        return fraction(BigInteger.valueOf(more), BigInteger.valueOf(orders.size()), upper);
    }

    int bears(int walker) {
        if (walker < 0 || walker >= walkers()) {
            return -1;
        }
        if (they.lost.contains(walker)) {
            return -3;
        }
        They those = they.copy();
        for (int minutes = 1; those.place < light(); minutes++) {
            walk(those, 0);
            if (those.turned.contains(walker)) {
                return minutes;
            }
        }
        return -9;
    }

    private int leftOf(List<Integer> row, long[] minutes) {
        They those = new They();
        those.row = new ArrayList<>(row);
        those.place = they.place;
        sing(those, minutes);
        return those.row.size();
    }

    private int sing(They those, long[] minutes) {
        int first = -9;
        for (int k = 0; k < minutes.length; k++) {
            if (those.place == light()) {
                break;
            }
            walk(those, minutes[k]);
            if (!those.turned.isEmpty() && first == -9) {
                first = k;
            }
        }
        return first;
    }

    /** By its figures as they are written; null if it is none. */
    private static long[] minutes(int n, long song) {
        if (n < 1 || n > 5 || song < 0) {
            return null;
        }
        StringBuilder figures = new StringBuilder(Long.toString(song));
        while (figures.length() < 2 * n) {
            figures.insert(0, '0');
        }
        if (figures.length() > 2 * n) {
            return null;
        }
        long[] minutes = new long[n];
        for (int k = 0; k < n; k++) {
            minutes[k] = Long.parseLong(figures.substring(2 * k, 2 * k + 2));
            if (minutes[k] > 31) {
                return null;
            }
        }
        return minutes;
    }

    private static List<List<Integer>> orders(List<Integer> of) {
        List<List<Integer>> orders = new ArrayList<>();
        if (of.isEmpty()) {
            orders.add(new ArrayList<>());
        }
        for (Integer first : of) {
            List<Integer> others = new ArrayList<>(of);
            others.remove(first);
            for (List<Integer> rest : orders(others)) {
                rest.add(0, first);
                orders.add(rest);
            }
        }
        return orders;
    }

    // ---- heard

    int still(int n, int heard, int x, int y, boolean upper) {
        if (n < 1 || n > 4 || heard < 0 || heard >= Math.pow(2, n) || x < 0 || x > 10 || y < 0 || y > 10) {
            return -2;
        }
        BigInteger all = BigInteger.ZERO;
        BigInteger there = BigInteger.ZERO;
        // In which MINUTE it is LOST; n: in none. All chances by ten to the power of 2 n.
        for (int lost = 0; lost <= n; lost++) {
            BigInteger chance = BigInteger.ONE;
            for (int k = 0; k < n; k++) {
                boolean isThere = k < lost;
                boolean isHeard = (heard >> k) % 2 == 1;
                int stays = k < lost ? 10 - y : k == lost ? y : 10;
                int sounds = isThere ? isHeard ? x : 10 - x : isHeard ? 0 : 10;
                chance = chance.multiply(BigInteger.valueOf(stays)).multiply(BigInteger.valueOf(sounds));
            }
            all = all.add(chance);
            there = lost == n ? chance : there;
        }
        return all.signum() == 0 ? -3 : fraction(there, all, upper);
    }

    int pebbles(int c, int n, boolean found) {
        if (c < 1 || c > 5 || n < 0 || n > 50) {
            return -2;
        }
        for (int pebbles = 0; pebbles <= 7; pebbles++) {
            // A row that is found out has its last colour told by the others.
            int free = found ? Math.max(0, pebbles - 1) : pebbles;
            if (BigInteger.valueOf(c).pow(free).intValue() >= n + 1) {
                return pebbles;
            }
        }
        return -9;
    }

    int tell(int t, boolean heard) {
        if (t < 0 || t > 8) {
            return -2;
        }
        if (told.size() == 6) {
            return -4;
        }
        told.add(new int[] {t, heard ? 1 : 0});
        return told.size();
    }

    int untell() {
        int many = told.size();
        told.clear();
        return many;
    }

    int letGo(boolean sings) {
        List<Integer> agreeing = new ArrayList<>();
        for (int g = 0; g <= 9; g++) {
            boolean agrees = true;
            for (int[] sound : told) {
                boolean canBeHeard = sound[0] < g;
                boolean canBeSilent = sound[0] >= g || !sings;
                agrees &= sound[1] == 1 ? canBeHeard : canBeSilent;
            }
            if (agrees) {
                agreeing.add(g);
            }
        }
        return bits(agreeing);
    }

    int link(int v, int x, int n, boolean upper) {
        if (v < 0 || v > 5 || x < 0 || x > 10 || n < 0 || n > 6) {
            return -2;
        }
        return fraction(holding(v, x, n, 0), BigInteger.TEN.pow(n), upper);
    }

    private static BigInteger holding(int v, int x, int n, int quiet) {
        if (quiet > v) {
            return BigInteger.ZERO;
        }
        if (n == 0) {
            return BigInteger.ONE;
        }
        BigInteger heard = holding(v, x, n - 1, 0).multiply(BigInteger.valueOf(x));
        BigInteger silent = holding(v, x, n - 1, quiet + 1).multiply(BigInteger.valueOf(10 - x));
        return heard.add(silent);
    }

    long seed(long v) {
        long was = seed;
        seed = v;
        return was;
    }

    int gorges(int m) {
        if (m < 1 || m > 20) {
            return -2;
        }
        int out = 0;
        for (int time = 0; time < m; time++) {
            They those = they.copy();
            while (those.place < light()) {
                BigInteger next = BigInteger.valueOf(seed).multiply(MULTIPLIER).add(ADDEND).mod(ALL_BITS);
                seed = next.longValue();
                walk(those, next.shiftRight(33).mod(BigInteger.valueOf(32)).longValue());
            }
            out += those.row.size();
        }
        return out;
    }

    // ---- slots

    int keep(int slot) {
        if (slot != 0 && slot != 1) {
            return -1;
        }
        slots.put(slot, they.copy());
        return they.place;
    }

    int again(int slot) {
        if (slot != 0 && slot != 1) {
            return -1;
        }
        if (!slots.containsKey(slot)) {
            return -3;
        }
        they = slots.get(slot).copy();
        acts.clear();
        return they.place;
    }

    // ---- numbers

    private static int bits(List<Integer> numbers) {
        int bits = 0;
        for (int number : numbers) {
            bits += 1 << number;
        }
        return bits;
    }

    private static int figures(List<Integer> row) {
        StringBuilder figures = new StringBuilder("0");
        for (int walker : row) {
            figures.append(walker + 1);
        }
        return Integer.parseInt(figures.toString());
    }

    private static int fraction(BigInteger upper, BigInteger lower, boolean wantsUpper) {
        BigInteger common = upper.gcd(lower);
        return (wantsUpper ? upper : lower).divide(common).intValueExact();
    }
}
