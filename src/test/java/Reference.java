import java.math.BigInteger;
import java.util.ArrayDeque;
import java.util.ArrayList;
import java.util.Collections;
import java.util.List;
import java.util.TreeSet;

/**
 * The document once more, written by other means than HillSight: nearest cells by squared distances, undo by
 * whole copies, Shapley values over all orders, probabilities over all subsets, texts by trying completions.
 */
final class Reference {
    static final int UNKNOWN = -1, BAD = -2, LATE = -3, FULL = -4, NONE = -9;

    /** What a change, a slot or a trial copies. */
    static final class State {
        int w = 2;
        int h = 2;
        List<Integer> heights = new ArrayList<>(Collections.nCopies(4, 0));
        List<int[]> towers = new ArrayList<>();
        int[] settings = {1, 0, 0, 9};

        State copy() {
            State s = new State();
            s.w = w;
            s.h = h;
            s.heights = new ArrayList<>(heights);
            s.towers = new ArrayList<>(towers);
            s.settings = settings.clone();
            return s;
        }

        int cells() {
            return w * h;
        }

        boolean has(int cell) {
            return cell >= 0 && cell < cells();
        }

        int distance(int a, int b) {
            return Math.max(Math.abs(a % w - b % w), Math.abs(a / w - b / w));
        }

        /** The cells at a step: those with the least squared distance to the point, all times n. */
        List<Integer> at(int a, int b, int k) {
            int n = distance(a, b);
            int px = a % w * n + k * (b % w - a % w);
            int py = a / w * n + k * (b / w - a / w);
            List<Integer> nearest = new ArrayList<>();
            int least = Integer.MAX_VALUE;
            for (int c = 0; c < cells(); c++) {
                int dx = c % w * n - px;
                int dy = c / w * n - py;
                int square = dx * dx + dy * dy;
                if (square < least) {
                    nearest.clear();
                    least = square;
                }
                if (square == least) {
                    nearest.add(c);
                }
            }
            return nearest;
        }

        int exceeds(int a, int r, int b, int k, int cell) {
            int n = distance(a, b);
            int p = heights.get(a) + r;
            int q = heights.get(b) + settings[1];
            return 10 * n * heights.get(cell) + n * settings[2] * k * (n - k) - 10 * (p * (n - k) + q * k);
        }

        TreeSet<Integer> blockedSteps(int a, int r, int b) {
            TreeSet<Integer> steps = new TreeSet<>();
            for (int k = 1; k < distance(a, b); k++) {
                for (int cell : at(a, b, k)) {
                    if (exceeds(a, r, b, k, cell) > 0) {
                        steps.add(k);
                    }
                }
            }
            return steps;
        }

        boolean visible(int a, int r, int b) {
            return a == b || distance(a, b) <= settings[3] && blockedSteps(a, r, b).isEmpty();
        }

        TreeSet<Integer> view(int a, int r) {
            TreeSet<Integer> seen = new TreeSet<>();
            for (int b = 0; b < cells(); b++) {
                if (visible(a, r, b)) {
                    seen.add(b);
                }
            }
            return seen;
        }

        TreeSet<Integer> towerView(int t) {
            return view(towers.get(t)[0], towers.get(t)[1]);
        }

        TreeSet<Integer> hidden() {
            TreeSet<Integer> hidden = new TreeSet<>();
            for (int c = 0; c < cells(); c++) {
                hidden.add(c);
            }
            for (int t = 0; t < towers.size(); t++) {
                hidden.removeAll(towerView(t));
            }
            return hidden;
        }

        List<TreeSet<Integer>> regions() {
            TreeSet<Integer> hidden = hidden();
            List<TreeSet<Integer>> regions = new ArrayList<>();
            while (!hidden.isEmpty()) {
                TreeSet<Integer> region = new TreeSet<>();
                ArrayDeque<Integer> open = new ArrayDeque<>();
                open.add(hidden.pollFirst());
                while (!open.isEmpty()) {
                    int c = open.remove();
                    region.add(c);
                    for (Integer other : new ArrayList<>(hidden)) {
                        int apart = Math.abs(c % w - other % w) + Math.abs(c / w - other / w);
                        if (apart == 1) {
                            hidden.remove(other);
                            open.add(other);
                        }
                    }
                }
                regions.add(region);
            }
            return regions;
        }

        boolean settingFits(int what, int v) {
            return what >= 0 && what <= 3 && v >= (what == 3 ? 1 : 0) && v <= 9;
        }
    }

    private State now = new State();
    private StringBuilder text = new StringBuilder();
    private final List<State> before = new ArrayList<>();
    private final State[] slots = new State[2];
    private final List<int[]> observations = new ArrayList<>();
    private long random = 0;

    static long bits(Iterable<Integer> set) {
        long bits = 0;
        for (int c : set) {
            bits += 1L << c;
        }
        return bits;
    }

    static int fraction(BigInteger top, BigInteger bottom, boolean upper) {
        BigInteger common = top.gcd(bottom);
        return (upper ? top : bottom).divide(common).intValueExact();
    }

    private boolean digit(int v) {
        return v >= 0 && v <= 9;
    }

    private void change() {
        before.add(now.copy());
        if (before.size() > 14) {
            before.remove(0);
        }
    }

    int write(int letter) {
        if (letter < 0 || letter > 255) {
            return BAD;
        }
        if (text.length() == 90) {
            return FULL;
        }
        text.append((char) letter);
        return text.length();
    }

    int wipe() {
        int had = text.length();
        text = new StringBuilder();
        return had;
    }

    static State parse(String s) {
        if (!s.matches("G[2-6][2-6][0-9]*([tembs].*)?")) {
            return null;
        }
        State state = new State();
        state.w = s.charAt(1) - '0';
        state.h = s.charAt(2) - '0';
        String rest = s.substring(3);
        if (!rest.matches("[0-9]{" + state.cells() + "}(t[0-9]{3}|[emb][0-9]|s[1-9])*")) {
            return null;
        }
        state.heights.clear();
        for (int c = 0; c < state.cells(); c++) {
            state.heights.add(rest.charAt(c) - '0');
        }
        String parts = rest.substring(state.cells());
        String letters = parts.replaceAll("[0-9]", "");
        for (char letter : "embs".toCharArray()) {
            if (letters.indexOf(letter) != letters.lastIndexOf(letter)) {
                return null;
            }
            int at = parts.indexOf(letter);
            if (at >= 0) {
                state.settings["embs".indexOf(letter)] = parts.charAt(at + 1) - '0';
            }
        }
        for (int at = parts.indexOf('t'); at >= 0; at = parts.indexOf('t', at + 1)) {
            int cell = Integer.parseInt(parts.substring(at + 1, at + 3));
            state.towers.add(new int[] {cell, parts.charAt(at + 3) - '0'});
            if (!state.has(cell)) {
                return null;
            }
        }
        return state.towers.size() > 5 ? null : state;
    }

    /** Whether a map text begins with this; the completions suffice, as zeros fit everywhere but at three places. */
    static boolean begins(String s) {
        for (String next : new String[] {"", "1", "2", "22", "G22"}) {
            for (int zeros = 0; zeros <= 40; zeros++) {
                if (parse(s + next + "0".repeat(zeros)) != null) {
                    return true;
                }
            }
        }
        return false;
    }

    static int faultOf(String s) {
        if (parse(s) != null) {
            return NONE;
        }
        for (int length = 1; length <= s.length(); length++) {
            if (!begins(s.substring(0, length))) {
                return length - 1;
            }
        }
        return s.length();
    }

    int fault() {
        return faultOf(text.toString());
    }

    int map() {
        State read = parse(text.toString());
        if (read == null) {
            return LATE;
        }
        now = read;
        before.clear();
        slots[0] = null;
        slots[1] = null;
        return now.cells();
    }

    int about(int what) {
        if (what < 0 || what > 11) {
            return BAD;
        }
        int[] all = {now.w, now.h, now.towers.size(), now.settings[0], now.settings[1], now.settings[2],
            now.settings[3], now.hidden().size(), now.regions().size(), before.size(), observations.size(),
            text.length()};
        return all[what];
    }

    int cell(int cell, int what) {
        if (!now.has(cell)) {
            return UNKNOWN;
        }
        int result = NONE;
        switch (what) {
            case 0 -> result = now.heights.get(cell);
            case 1 -> {
                TreeSet<Integer> on = new TreeSet<>();
                for (int t = 0; t < now.towers.size(); t++) {
                    if (now.towers.get(t)[0] == cell) {
                        on.add(t);
                    }
                }
                result = (int) bits(on);
            }
            case 2 -> result = watchers(cell).size();
            case 3 -> result = now.view(cell, now.settings[0]).size();
            case 4 -> {
                for (int r = 0; r < now.regions().size(); r++) {
                    if (now.regions().get(r).contains(cell)) {
                        result = r;
                    }
                }
            }
            default -> result = BAD;
        }
        return result;
    }

    private List<Integer> watchers(int cell) {
        List<Integer> watchers = new ArrayList<>();
        for (int t = 0; t < now.towers.size(); t++) {
            if (now.towerView(t).contains(cell)) {
                watchers.add(t);
            }
        }
        return watchers;
    }

    private boolean hasTower(int t) {
        return t >= 0 && t < now.towers.size();
    }

    int tower(int t, int what) {
        if (!hasTower(t)) {
            return UNKNOWN;
        }
        if (what < 0 || what > 3) {
            return BAD;
        }
        if (what < 2) {
            return now.towers.get(t)[what];
        }
        int alone = 0;
        for (int c : now.towerView(t)) {
            alone += watchers(c).size() == 1 ? 1 : 0;
        }
        return what == 2 ? now.towerView(t).size() : alone;
    }

    int raise(int cell, int height) {
        if (!now.has(cell)) {
            return UNKNOWN;
        }
        if (!digit(height)) {
            return BAD;
        }
        change();
        return now.heights.set(cell, height);
    }

    int build(int cell, int rise) {
        if (!now.has(cell)) {
            return UNKNOWN;
        }
        if (!digit(rise)) {
            return BAD;
        }
        if (now.towers.size() == 5) {
            return FULL;
        }
        change();
        now.towers.add(new int[] {cell, rise});
        return now.towers.size();
    }

    int raze(int t) {
        if (!hasTower(t)) {
            return UNKNOWN;
        }
        change();
        now.towers.remove(t);
        return now.towers.size();
    }

    int set(int what, int v) {
        if (!now.settingFits(what, v)) {
            return BAD;
        }
        change();
        int old = now.settings[what];
        now.settings[what] = v;
        return old;
    }

    int undo() {
        if (before.isEmpty()) {
            return LATE;
        }
        now = before.remove(before.size() - 1);
        return before.size();
    }

    int sees(int from, int to, int what) {
        if (!now.has(from) || !now.has(to)) {
            return UNKNOWN;
        }
        if (what < 0 || what > 4) {
            return BAD;
        }
        int eye = now.settings[0];
        if (what == 0) {
            return now.visible(from, eye, to) ? 1 : 0;
        }
        if (what == 1) {
            return now.distance(from, to);
        }
        if (what == 2) {
            TreeSet<Integer> blocked = now.blockedSteps(from, eye, to);
            return blocked.isEmpty() ? NONE : blocked.first();
        }
        if (what == 3) {
            TreeSet<Integer> all = new TreeSet<>();
            for (int k = 1; k < now.distance(from, to); k++) {
                for (int cell : now.at(from, to, k)) {
                    all.add(now.exceeds(from, eye, to, k, cell));
                }
            }
            return all.isEmpty() ? NONE : 1000 + all.last();
        }
        int needed = NONE;
        for (int rise = 99; rise >= 0; rise--) {
            needed = now.visible(from, rise, to) ? rise : needed;
        }
        return needed;
    }

    long view(int cell) {
        return now.has(cell) ? bits(now.view(cell, now.settings[0])) : UNKNOWN;
    }

    long watched(int t) {
        return hasTower(t) ? bits(now.towerView(t)) : UNKNOWN;
    }

    long joined(int way) {
        if (way < 0 || way > 3) {
            return BAD;
        }
        TreeSet<Integer> result = new TreeSet<>();
        for (int t = 0; t < now.towers.size(); t++) {
            TreeSet<Integer> next = now.towerView(t);
            TreeSet<Integer> both = new TreeSet<>(result);
            both.retainAll(next);
            if (t == 0 || way == 0) {
                result.addAll(next);
            } else if (way == 1) {
                result = both;
            } else if (way == 2) {
                result.addAll(next);
                result.removeAll(both);
            } else {
                result.removeAll(next);
            }
        }
        return bits(result);
    }

    long hollow(int r) {
        return r >= 0 && r < now.regions().size() ? bits(now.regions().get(r)) : UNKNOWN;
    }

    int last(int cell, int direction) {
        if (!now.has(cell)) {
            return UNKNOWN;
        }
        if (direction < 0 || direction > 7) {
            return BAD;
        }
        int dx = List.of(0, 1, 7).contains(direction) ? 1 : List.of(3, 4, 5).contains(direction) ? -1 : 0;
        int dy = List.of(1, 2, 3).contains(direction) ? 1 : List.of(5, 6, 7).contains(direction) ? -1 : 0;
        int found = cell;
        for (int k = 1; k < 9; k++) {
            int x = cell % now.w + k * dx;
            int y = cell / now.w + k * dy;
            if (x >= 0 && x < now.w && y >= 0 && y < now.h && now.visible(cell, now.settings[0], y * now.w + x)) {
                found = y * now.w + x;
            }
        }
        return found;
    }

    private int hiddenWith(int rise, int... places) {
        State more = now.copy();
        for (int place : places) {
            more.towers.add(new int[] {place, rise});
        }
        return more.hidden().size();
    }

    int best(int rise, int what) {
        if (!digit(rise) || what < 0 || what > 1) {
            return BAD;
        }
        int place = now.cells() - 1;
        for (int c = place; c >= 0; c--) {
            place = hiddenWith(rise, c) <= hiddenWith(rise, place) ? c : place;
        }
        return what == 0 ? place : hiddenWith(rise, place);
    }

    int two(int rise, int what) {
        if (!digit(rise) || what < 0 || what > 2) {
            return BAD;
        }
        TreeSet<Integer> hidden = now.hidden();
        List<TreeSet<Integer>> views = new ArrayList<>();
        for (int c = 0; c < now.cells(); c++) {
            views.add(now.view(c, rise));
        }
        int[] least = null;
        for (int b = now.cells() - 1; b >= 0; b--) {
            for (int a = b; a >= 0; a--) {
                TreeSet<Integer> left = new TreeSet<>(hidden);
                left.removeAll(views.get(a));
                left.removeAll(views.get(b));
                int[] here = {a, b, left.size()};
                boolean better = least == null || here[2] < least[2]
                        || here[2] == least[2] && a * 100 + b < least[0] * 100 + least[1];
                least = better ? here : least;
            }
        }
        return least[what];
    }

    int part(boolean upper) {
        int cells = now.cells();
        return fraction(BigInteger.valueOf(cells - now.hidden().size()), BigInteger.valueOf(cells), upper);
    }

    int judge(int n, long row) {
        if (n < 1 || n > 3 || row < 0 || Long.toString(row).length() > 5 * n) {
            return BAD;
        }
        String digits = "0".repeat(5 * n - Long.toString(row).length()) + row;
        State kept = now;
        now = now.copy();
        int result = NONE;
        for (int i = 0; i < n && result == NONE; i++) {
            if (!happens(digits.substring(5 * i, 5 * i + 5))) {
                result = i;
            }
        }
        now = kept;
        return result;
    }

    private boolean happens(String event) {
        int cell = Integer.parseInt(event.substring(1, 3));
        int a = event.charAt(1) - '0';
        int b = event.charAt(2) - '0';
        int c = event.charAt(3) - '0';
        if (event.matches("1...0") && now.has(cell)) {
            now.heights.set(cell, c);
            return true;
        }
        if (event.matches("2...0") && now.has(cell) && now.towers.size() < 5) {
            now.towers.add(new int[] {cell, c});
            return true;
        }
        if (event.matches("3.000") && hasTower(a)) {
            now.towers.remove(a);
            return true;
        }
        if (event.matches("6..00") && now.settingFits(a, b)) {
            now.settings[a] = b;
            return true;
        }
        return event.matches("4..00") && now.hidden().size() == cell
            || event.matches("5..[01]0") && now.has(cell) && watchers(cell).isEmpty() == (c == 0)
            || event.matches("7.000") && now.regions().size() == a;
    }

    int find(int cell, int was) {
        if (!now.has(cell)) {
            return UNKNOWN;
        }
        if (was < 0 || was > 1) {
            return BAD;
        }
        if (observations.size() == 6) {
            return FULL;
        }
        observations.add(new int[] {cell, was});
        return observations.size();
    }

    int lose() {
        int had = observations.size();
        observations.clear();
        return had;
    }

    long which() {
        TreeSet<Integer> result = new TreeSet<>();
        for (int c = 0; c < now.cells(); c++) {
            TreeSet<Integer> seen = now.view(c, now.settings[0]);
            if (observations.stream().allMatch(o -> seen.contains(o[0]) == (o[1] == 1))) {
                result.add(c);
            }
        }
        return bits(result);
    }

    int share(int t, boolean upper) {
        if (!hasTower(t)) {
            return UNKNOWN;
        }
        List<List<Integer>> orders = orders(now.towers.size());
        long sum = 0;
        for (List<Integer> order : orders) {
            TreeSet<Integer> fresh = now.towerView(t);
            for (int other : order.subList(0, order.indexOf(t))) {
                fresh.removeAll(now.towerView(other));
            }
            sum += fresh.size();
        }
        return fraction(BigInteger.valueOf(sum), BigInteger.valueOf(orders.size()), upper);
    }

    private static List<List<Integer>> orders(int n) {
        List<List<Integer>> all = new ArrayList<>();
        if (n == 0) {
            all.add(List.of());
            return all;
        }
        for (List<Integer> shorter : orders(n - 1)) {
            for (int at = 0; at < n; at++) {
                List<Integer> longer = new ArrayList<>(shorter);
                longer.add(at, n - 1);
                all.add(longer);
            }
        }
        return all;
    }

    int chance(int cell, int x, boolean upper) {
        if (!now.has(cell)) {
            return UNKNOWN;
        }
        if (x < 0 || x > 10) {
            return BAD;
        }
        int n = now.towers.size();
        List<Integer> watchers = watchers(cell);
        BigInteger sum = BigInteger.ZERO;
        for (int present = 0; present < 1 << n; present++) {
            BigInteger weight = BigInteger.ONE;
            boolean seen = false;
            for (int t = 0; t < n; t++) {
                boolean here = (present >> t) % 2 == 1;
                weight = weight.multiply(BigInteger.valueOf(here ? 10 - x : x));
                seen |= here && watchers.contains(t);
            }
            sum = seen ? sum.add(weight) : sum;
        }
        return fraction(sum, BigInteger.TEN.pow(n), upper);
    }

    long seed(long v) {
        long old = random;
        random = v;
        return old;
    }

    int drawn(int m) {
        if (m < 1 || m > 20) {
            return BAD;
        }
        State kept = now;
        now = now.copy();
        int sum = 0;
        for (int i = 0; i < m; i++) {
            BigInteger x = BigInteger.valueOf(random).multiply(new BigInteger("6364136223846793005"))
                    .add(new BigInteger("1442695040888963407")).mod(BigInteger.TWO.pow(64));
            random = x.longValue();
            int v = x.divide(BigInteger.TWO.pow(33)).intValueExact();
            now.heights.set(v % now.cells(), v / 64 % 10);
            sum += now.hidden().size();
        }
        now = kept;
        return sum;
    }

    int keep(int slot) {
        if (slot < 0 || slot > 1) {
            return UNKNOWN;
        }
        slots[slot] = now.copy();
        return now.towers.size();
    }

    int again(int slot) {
        if (slot < 0 || slot > 1) {
            return UNKNOWN;
        }
        if (slots[slot] == null) {
            return LATE;
        }
        now = slots[slot].copy();
        before.clear();
        return now.towers.size();
    }
}
