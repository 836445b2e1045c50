import java.math.BigInteger;
import java.util.ArrayList;
import java.util.Arrays;
import java.util.HashMap;
import java.util.List;
import java.util.Map;
import java.util.TreeSet;
import java.util.regex.Matcher;
import java.util.regex.Pattern;

/**
 * The document once more, plain and slow, by other ways than the program: texts by a regular
 * expression, turns by going down step by step, planes by fractions, pairs by trying all.
 */
final class Model {
    private static final int NONE = -1;
    private static final int NO_HEIGHT = -1000000;

    /** All that is told; copied whole for each image. */
    private static final class State {
        String tape = "";
        List<Told> pictures = new ArrayList<>();
        List<List<int[]>> tests = new ArrayList<>();
        int fault = 0;
        int place = NONE;

        State copy() {
            State other = new State();
            other.tape = tape;
            other.pictures = new ArrayList<>(pictures);
            other.tests = new ArrayList<>(tests);
            other.fault = fault;
            other.place = place;
            return other;
        }
    }

    /** A picture as told; never changed once it is read. */
    private static final class Told {
        int w = 3;
        int h = 3;
        int least = 1;
        final int[][] steps = new int[25][4];
        final int[] weights = new int[25];
        final Map<Integer, Integer> phases = new HashMap<>();
        final TreeSet<Integer> holes = new TreeSet<>();
        final TreeSet<Integer> mentioned = new TreeSet<>();

        Told() {
            Arrays.fill(weights, 1);
        }

        int contrast(int p) {
            return Math.abs(steps[p][0] - steps[p][2]) + Math.abs(steps[p][1] - steps[p][3]);
        }

        int phase(int p, int limit) {
            if (phases.containsKey(p)) {
                return phases.get(p);
            }
            int x = steps[p][0] - steps[p][2];
            int y = steps[p][1] - steps[p][3];
            int s = contrast(p);
            if (s < limit) {
                return NONE;
            }
            if (x > 0 && y >= 0) {
                return 100 * y / s;
            }
            if (x <= 0 && y > 0) {
                return 100 + 100 * -x / s;
            }
            if (x < 0 && y <= 0) {
                return 200 + 100 * -y / s;
            }
            return 300 + 100 * x / s;
        }
    }

    private State now = new State();
    private final State[] images = new State[3];
    private final Map<Told, Grid> grids = new HashMap<>();

    // ---- tape and texts

    int feed(int a, int b, int c, int d, int e) {
        if (now.tape.length() + 20 > 600) {
            return NONE;
        }
        StringBuilder signs = new StringBuilder(now.tape);
        for (int number : new int[] {a, b, c, d, e}) {
            signs.append((char) (number >> 24 & 255)).append((char) (number >> 16 & 255));
            signs.append((char) (number >> 8 & 255)).append((char) (number & 255));
        }
        now.tape = signs.toString();
        return now.tape.length();
    }

    int end(int n) {
        if (n < 0 || n > now.tape.length()) {
            return NONE;
        }
        now.tape = now.tape.substring(0, n);
        return n;
    }

    int text(int sort, int at) {
        String text = now.tape;
        now.tape = "";
        now.fault = 0;
        now.place = NONE;
        if (sort < 0 || sort > 1) {
            return -2;
        }
        int have = sort == 0 ? now.pictures.size() : now.tests.size();
        if (at == NONE ? have == 3 - sort : at < 0 || at >= have) {
            return -2;
        }
        int number = at == NONE ? have : at;
        if (sort == 0) {
            Told told = new Told();
            readText(0, text, told, null);
            if (now.fault == 0) {
                put(now.pictures, number, told);
            }
        } else {
            List<int[]> limits = new ArrayList<>();
            readText(1, text, null, limits);
            if (now.fault == 0) {
                put(now.tests, number, limits);
            }
        }
        return now.fault == 0 ? number : NONE;
    }

    private static <T> void put(List<T> list, int number, T one) {
        if (number == list.size()) {
            list.add(one);
        } else {
            list.set(number, one);
        }
    }

    private static final Pattern TOKEN = Pattern.compile("[ \n]*(?:([a-z]+)|([0-9]+)|(;)|([\\x00-\\xff]))");
    private static final List<String> PICTURE_WORDS = List.of("size", "step", "phase", "hole", "weight", "least");
    private static final List<String> TEST_WORDS = List.of("cost", "lost", "parts", "fours", "high", "wrong");
    private static final Pattern[] GRAMMARS = {
        Pattern.compile("(?:ann;|bnnn+;|cnn+;|dn+;|enn;|fn;)*"), Pattern.compile("(?:[a-f]n;)*")};

    private void readText(int sort, String text, Told told, List<int[]> limits) {
        StringBuilder shape = new StringBuilder();
        List<Integer> places = new ArrayList<>();
        List<Integer> numbers = new ArrayList<>();
        tokens(sort, text, shape, places, numbers);
        for (int i = 1; i <= shape.length(); i++) {
            Matcher matcher = GRAMMARS[sort].matcher(shape.substring(0, i));
            if (!matcher.matches() && !matcher.hitEnd()) {
                fail(1, places.get(i - 1));
                return;
            }
        }
        if (!GRAMMARS[sort].matcher(shape).matches()) {
            fail(1, text.length());
            return;
        }
        if (sort == 0) {
            readPicture(text, shape, places, numbers, told);
        } else {
            readTest(shape, places, numbers, limits);
        }
    }

    private static void tokens(int sort, String text, StringBuilder shape, List<Integer> places, List<Integer> numbers) {
        Matcher matcher = TOKEN.matcher(text);
        int at = 0;
        while (matcher.find(at) && matcher.start() == at) {
            at = matcher.end();
            int group = matcher.group(1) != null ? 1 : matcher.group(2) != null ? 2 : matcher.group(3) != null ? 3 : 4;
            if (group == 4 && " \n".contains(matcher.group(4))) {
                break;
            }
            String token = matcher.group(group);
            int word = (sort == 0 ? PICTURE_WORDS : TEST_WORDS).indexOf(token);
            boolean isNumber = group == 2 && token.length() <= 4;
            shape.append(word >= 0 ? (char) ('a' + word) : isNumber ? 'n' : group == 3 ? ';' : '?');
            places.add(matcher.start(group));
            numbers.add(isNumber ? Integer.parseInt(token) : 0);
        }
    }

    private void fail(int fault, int place) {
        now.fault = fault;
        now.place = place;
    }

    private void readPicture(String text, StringBuilder shape, List<Integer> places, List<Integer> numbers, Told told) {
        char line = ' ';
        int i = 0;
        int pixel = 0;
        int which = 0;
        for (int at = 0; at < shape.length(); at++) {
            char sign = shape.charAt(at);
            if (sign != 'n') {
                line = sign;
                i = 0;
                continue;
            }
            int n = numbers.get(at);
            boolean isPixel = line == 'd' || i == 0 && (line == 'c' || line == 'e') || i == 1 && line == 'b';
            boolean can;
            if (isPixel) {
                pixel = n;
                can = n <= 24;
            } else if (line == 'a') {
                can = n >= 2 && n <= 5;
            } else if (line == 'b') {
                can = i == 0 ? n <= 3 : n <= 99 && pixel <= 24;
            } else if (line == 'c') {
                can = n <= 399 && pixel <= 24;
            } else {
                can = n >= 1 && n <= (line == 'e' ? 9 : 198);
            }
            if (!can) {
                fail(2, places.get(at));
                return;
            }
            if (line == 'a') {
                told.w = i == 0 ? n : told.w;
                told.h = i == 1 ? n : told.h;
            } else if (line == 'f') {
                told.least = n;
            } else if (line == 'b' && i == 0) {
                which = n;
            } else {
                told.mentioned.add(pixel);
                if (line == 'd') {
                    told.holes.add(pixel);
                } else if (line == 'e' && i == 1) {
                    told.weights[pixel] = n;
                } else if (line == 'b' && i > 1) {
                    told.steps[pixel++][which] = n;
                } else if (line == 'c' && i > 0) {
                    told.phases.put(pixel++, n);
                }
            }
            i++;
        }
        if (!told.mentioned.isEmpty() && told.mentioned.last() >= told.w * told.h) {
            fail(4, text.length());
        }
    }

    private void readTest(StringBuilder shape, List<Integer> places, List<Integer> numbers, List<int[]> limits) {
        for (int at = 0; at < shape.length(); at += 3) {
            if (limits.size() == 8) {
                fail(3, places.get(at));
                return;
            }
            limits.add(new int[] {shape.charAt(at) - 'a', numbers.get(at + 1)});
        }
    }

    int fault(int what) {
        return what == 0 ? now.fault : what == 1 ? now.place : NONE;
    }

    int count(int sort) {
        return sort == 0 ? now.pictures.size() : sort == 1 ? now.tests.size() : -2;
    }

    boolean image(int k) {
        if (k < 0 || k > 2) {
            return false;
        }
        images[k] = now.copy();
        return true;
    }

    boolean again(int k) {
        if (k < 0 || k > 2 || images[k] == null) {
            return false;
        }
        now = images[k].copy();
        return true;
    }

    // ---- what is there, and its heights

    /** What is THERE of a picture, with its turns. */
    static final class Grid {
        final int w;
        final int h;
        final int[] phase;
        final int[] weight;
        final boolean[] there;
        int[] part;
        int parts;
        int[] turns;
        int[] most;
        int[] walked;
        int cost;

        Grid(int w, int h) {
            this.w = w;
            this.h = h;
            phase = new int[w * h];
            weight = new int[w * h];
            there = new boolean[w * h];
        }

        int size() {
            return w * h;
        }

        boolean beside(int a, int b) {
            return a % w == b % w && Math.abs(a / w - b / w) == 1 || a / w == b / w && Math.abs(a - b) == 1;
        }

        int difference(int a, int b) {
            if (a > b) {
                return -difference(b, a);
            }
            int d = phase[b] - phase[a];
            while (d < -200) {
                d += 400;
            }
            while (d > 199) {
                d -= 400;
            }
            return d;
        }

        List<int[]> pairs() {
            List<int[]> pairs = new ArrayList<>();
            for (int a = 0; a < size(); a++) {
                for (int b = a + 1; b < size(); b++) {
                    if (there[a] && there[b] && beside(a, b)) {
                        pairs.add(new int[] {a, b});
                    }
                }
            }
            return pairs;
        }

        int leap(int[] t, int a, int b) {
            return (phase[b] + 400 * t[b] - phase[a] - 400 * t[a] - difference(a, b)) / 400;
        }

        int costOf(int[] t) {
            int sum = 0;
            for (int[] pair : pairs()) {
                sum += Math.abs(leap(t, pair[0], pair[1])) * Math.min(weight[pair[0]], weight[pair[1]]);
            }
            return sum;
        }

        void findParts() {
            part = new int[size()];
            Arrays.fill(part, NONE);
            parts = 0;
            for (int p = 0; p < size(); p++) {
                if (there[p] && part[p] == NONE) {
                    fill(p, parts++);
                }
            }
        }

        private void fill(int p, int number) {
            part[p] = number;
            for (int q = 0; q < size(); q++) {
                if (there[q] && part[q] == NONE && beside(p, q)) {
                    fill(q, number);
                }
            }
        }

        int leastPixel(int number) {
            for (int p = 0; p < size(); p++) {
                if (part[p] == number) {
                    return p;
                }
            }
            return NONE;
        }

        Grid solve() {
            findParts();
            turns = new int[size()];
            boolean better = true;
            while (better) {
                better = goDown(turns, 1, false) || goDown(turns, -1, false);
            }
            cost = costOf(turns);
            most = turns.clone();
            while (goDown(turns, -1, true)) {
                better = true;
            }
            while (goDown(most, 1, true)) {
                better = true;
            }
            walk();
            return this;
        }

        /** One step: the best set of pixels moved by a turn; true if any moved (for less cost, or for the same). */
        private boolean goDown(int[] t, int way, boolean same) {
            int before = costOf(t);
            int[] moved = bestMove(t, way);
            int[] after = t.clone();
            boolean any = false;
            for (int p = 0; p < size(); p++) {
                after[p] += way * moved[p];
                any |= moved[p] != 0;
            }
            int cost = costOf(after);
            if (cost > before || !same && cost == before || !any) {
                return false;
            }
            System.arraycopy(after, 0, t, 0, size());
            return true;
        }

        /** Of all sets that could move, one with the least cost, of those the largest: by rows' ends. */
        private int[] bestMove(int[] t, int way) {
            int n = size();
            int all = 1 << w;
            int[][] best = new int[n + 1][all];
            int[][] choice = new int[n][all];
            for (int p = n - 1; p >= 0; p--) {
                boolean free = there[p] && leastPixel(part[p]) != p;
                for (int before = 0; before < all; before++) {
                    best[p][before] = Integer.MAX_VALUE;
                    for (int move = 0; move <= (free ? 1 : 0); move++) {
                        int cost = best[p + 1][(before << 1 | move) & all - 1] - move;
                        if (p % w > 0) {
                            cost += 1000 * joint(t, p - 1, p, way * (before & 1), way * move);
                        }
                        if (p >= w) {
                            cost += 1000 * joint(t, p - w, p, way * (before >> w - 1 & 1), way * move);
                        }
                        if (cost < best[p][before]) {
                            best[p][before] = cost;
                            choice[p][before] = move;
                        }
                    }
                }
            }
            int[] moved = new int[n];
            int before = 0;
            for (int p = 0; p < n; p++) {
                moved[p] = choice[p][before];
                before = (before << 1 | moved[p]) & all - 1;
            }
            return moved;
        }

        private int joint(int[] t, int a, int b, int moveA, int moveB) {
            if (!there[a] || !there[b]) {
                return 0;
            }
            return Math.abs(leap(t, a, b) + moveB - moveA) * Math.min(weight[a], weight[b]);
        }

        private void walk() {
            walked = new int[size()];
            boolean[] done = new boolean[size()];
            for (int number = 0; number < parts; number++) {
                int root = leastPixel(number);
                walked[root] = phase[root];
                done[root] = true;
                boolean more = true;
                while (more) {
                    more = walkOne(done);
                }
            }
        }

        private boolean walkOne(boolean[] done) {
            for (int p = 0; p < size(); p++) {
                for (int q = 0; q < size(); q++) {
                    if (there[p] && !done[p] && done[q] && beside(p, q)) {
                        walked[p] = walked[q] + difference(q, p);
                        done[p] = true;
                        return true;
                    }
                }
            }
            return false;
        }

        int height(int p) {
            return phase[p] + 400 * turns[p];
        }

        int countThere() {
            int n = 0;
            for (boolean is : there) {
                n += is ? 1 : 0;
            }
            return n;
        }

        /** -100 if there is none. */
        int round(int x, int y, long wide, long high) {
            if (x < 0 || y < 0 || wide < 1 || high < 1 || x + wide >= w || y + high >= h) {
                return -100;
            }
            List<Integer> way = new ArrayList<>();
            for (int i = 0; i < wide; i++) {
                way.add(y * w + x + i);
            }
            for (int i = 0; i < high; i++) {
                way.add((y + i) * w + x + (int) wide);
            }
            for (int i = 0; i < wide; i++) {
                way.add((y + (int) high) * w + x + (int) wide - i);
            }
            for (int i = 0; i < high; i++) {
                way.add((y + (int) high - i) * w + x);
            }
            int sum = 0;
            for (int i = 0; i < way.size(); i++) {
                int a = way.get(i);
                int b = way.get((i + 1) % way.size());
                if (!there[a] || !there[b]) {
                    return -100;
                }
                sum += difference(a, b);
            }
            return sum / 400;
        }

        List<int[]> fours() {
            List<int[]> fours = new ArrayList<>();
            for (int y = 0; y < h; y++) {
                for (int x = 0; x < w; x++) {
                    int four = round(x, y, 1, 1);
                    if (four == 1 || four == -1) {
                        fours.add(new int[] {x, y, four});
                    }
                }
            }
            return fours;
        }

        int countFours(int kind) {
            int n = 0;
            for (int[] four : fours()) {
                n += four[2] == kind ? 1 : 0;
            }
            return n;
        }
    }

    private static Grid gridOf(Told told, int least) {
        Grid grid = new Grid(told.w, told.h);
        for (int p = 0; p < grid.size(); p++) {
            grid.phase[p] = told.phase(p, least);
            grid.weight[p] = told.weights[p];
            grid.there[p] = grid.phase[p] != NONE && !told.holes.contains(p);
        }
        return grid;
    }

    private boolean has(int picture) {
        return picture >= 0 && picture < now.pictures.size();
    }

    private boolean has(int picture, int p) {
        return has(picture) && p >= 0 && p < told(picture).w * told(picture).h;
    }

    private boolean there(int picture, int p) {
        return has(picture, p) && grid(picture).there[p];
    }

    private Told told(int picture) {
        return now.pictures.get(picture);
    }

    private Grid grid(int picture) {
        return grids.computeIfAbsent(told(picture), told -> gridOf(told, told.least).solve());
    }

    private Grid other(int picture) {
        return gridOf(told(picture), told(picture).least);
    }

    // ---- the questions

    int picture(int picture, int what) {
        if (!has(picture) || what < 0 || what > 12) {
            return -2;
        }
        Told told = told(picture);
        Grid grid = grid(picture);
        int[] counted = new int[3];
        for (int p = 0; p < grid.size(); p++) {
            if (grid.there[p]) {
                counted[0] += grid.walked[p] != grid.height(p) ? 1 : 0;
                counted[1] += grid.most[p] == grid.turns[p] ? 1 : 0;
            }
        }
        for (int[] pair : grid.pairs()) {
            counted[2] += grid.leap(grid.turns, pair[0], pair[1]) != 0 ? 1 : 0;
        }
        int[] simple = {told.w, told.h, told.least, grid.countThere(), grid.parts, grid.countFours(1),
            grid.countFours(-1), grid.cost, counted[2], counted[0], 0, 0, counted[1]};
        return what == 10 ? mend(picture) : what == 11 ? rough(grid) : simple[what];
    }

    private int mend(int picture) {
        int best = NONE;
        for (int p = grid(picture).size() - 1; p >= 0; p--) {
            if (there(picture, p) && out(picture, p, false) < grid(picture).cost
                    && (best == NONE || out(picture, p, false) <= out(picture, best, false))) {
                best = p;
            }
        }
        return best;
    }

    private static int rough(Grid grid) {
        int[] sums = new int[grid.size()];
        for (int[] pair : grid.pairs()) {
            int cost = Math.abs(grid.leap(grid.turns, pair[0], pair[1]))
                    * Math.min(grid.weight[pair[0]], grid.weight[pair[1]]);
            sums[pair[0]] += cost;
            sums[pair[1]] += cost;
        }
        int best = NONE;
        for (int p = 0; p < sums.length; p++) {
            if (sums[p] > (best == NONE ? 0 : sums[best])) {
                best = p;
            }
        }
        return best;
    }

    int pixel(int picture, int p, int what) {
        if (!has(picture, p) || what < 0 || what > 7) {
            return -2;
        }
        Told told = told(picture);
        int[] all = {told.steps[p][0], told.steps[p][1], told.steps[p][2], told.steps[p][3], told.weights[p],
            told.contrast(p), told.phase(p, told.least), told.holes.contains(p) ? 1 : 0};
        return all[what];
    }

    int height(int picture, int p, int what) {
        if (!there(picture, p) || what < 0 || what > 4) {
            return NO_HEIGHT;
        }
        Grid grid = grid(picture);
        int[] all = {grid.part[p], grid.turns[p], grid.most[p], grid.height(p), grid.walked[p]};
        return all[what];
    }

    int differ(int picture, int a, int b, boolean leap) {
        if (!there(picture, a) || !there(picture, b) || !grid(picture).beside(a, b)) {
            return NO_HEIGHT;
        }
        Grid grid = grid(picture);
        return leap ? grid.leap(grid.turns, a, b) : grid.difference(a, b);
    }

    int four(int picture, int x, int y) {
        int four = has(picture) ? grid(picture).round(x, y, 1, 1) : -100;
        return four == -100 ? -2 : four;
    }

    private List<Integer> pixelsOf(Grid grid, int part) {
        List<Integer> pixels = new ArrayList<>();
        for (int p = 0; p < grid.size(); p++) {
            if (grid.part[p] == part && grid.there[p]) {
                pixels.add(p);
            }
        }
        return pixels;
    }

    int part(int picture, int part, int what) {
        if (!has(picture) || part < 0 || part >= grid(picture).parts || what < 0 || what > 4) {
            return NO_HEIGHT;
        }
        Grid grid = grid(picture);
        List<Integer> pixels = pixelsOf(grid, part);
        TreeSet<Integer> heights = new TreeSet<>();
        for (int p : pixels) {
            heights.add(grid.height(p));
        }
        int[] all = {pixels.size(), pixels.get(0), heights.first(), heights.last(), heights.last() - heights.first()};
        return all[what];
    }

    /** By Cramer's rule with minors written out by a loop, and OFF pixel by pixel. */
    long plane(int picture, int part, int what) {
        if (part(picture, part, 0) == NO_HEIGHT || what < 0 || what > 4) {
            return Long.MIN_VALUE;
        }
        Grid grid = grid(picture);
        BigInteger[][] m = new BigInteger[3][4];
        for (BigInteger[] row : m) {
            Arrays.fill(row, BigInteger.ZERO);
        }
        for (int p : pixelsOf(grid, part)) {
            long[] v = {1, p % grid.w, p / grid.w, grid.height(p)};
            for (int i = 0; i < 3; i++) {
                for (int j = 0; j < 4; j++) {
                    m[i][j] = m[i][j].add(BigInteger.valueOf(v[i] * v[j]));
                }
            }
        }
        BigInteger d = determinant(m, 3);
        if (d.signum() == 0) {
            return Long.MIN_VALUE;
        }
        BigInteger[] abc = {determinant(m, 0), determinant(m, 1), determinant(m, 2)};
        BigInteger off = BigInteger.ZERO;
        for (int p : pixelsOf(grid, part)) {
            BigInteger less = d.multiply(BigInteger.valueOf(grid.height(p))).subtract(abc[0])
                    .subtract(abc[1].multiply(BigInteger.valueOf(p % grid.w)))
                    .subtract(abc[2].multiply(BigInteger.valueOf(p / grid.w)));
            off = off.add(less.multiply(less));
        }
        BigInteger[] offAndRest = off.divideAndRemainder(d);
        if (offAndRest[1].signum() != 0) {
            throw new IllegalStateException("OFF is not whole");
        }
        BigInteger[] all = {abc[0], abc[1], abc[2], d, offAndRest[0]};
        return all[what].longValueExact();
    }

    /** Of the first three columns, one of them put in its place by the fourth (3: none). */
    private static BigInteger determinant(BigInteger[][] m, int replaced) {
        BigInteger sum = BigInteger.ZERO;
        int[][] orders = {{0, 1, 2}, {1, 2, 0}, {2, 0, 1}, {2, 1, 0}, {1, 0, 2}, {0, 2, 1}};
        for (int i = 0; i < 6; i++) {
            BigInteger product = BigInteger.ONE;
            for (int row = 0; row < 3; row++) {
                int column = orders[i][row];
                product = product.multiply(m[row][column == replaced ? 3 : column]);
            }
            sum = i < 3 ? sum.add(product) : sum.subtract(product);
        }
        return sum;
    }

    int out(int picture, int p, boolean others) {
        if (!there(picture, p)) {
            return NONE;
        }
        Grid then = other(picture);
        then.there[p] = false;
        then.solve();
        Grid before = grid(picture);
        int moved = 0;
        for (int q = 0; q < then.size(); q++) {
            if (then.there[q]) {
                int least = then.leastPixel(then.part[q]);
                moved += then.height(q) - then.height(least) != before.height(q) - before.height(least) ? 1 : 0;
            }
        }
        return others ? moved : then.cost;
    }

    int heavy(int picture, int p, int weight) {
        if (!has(picture, p) || weight < 1 || weight > 9) {
            return NONE;
        }
        Grid grid = other(picture);
        grid.weight[p] = weight;
        return grid.solve().cost;
    }

    private TreeSet<Integer> lessesOf(int one, int two, int dx, int dy, int[] commonAndSum) {
        Grid a = grid(one);
        Grid b = grid(two);
        TreeSet<Integer> lesses = new TreeSet<>();
        for (int p = 0; p < a.size(); p++) {
            for (int q = 0; q < b.size(); q++) {
                if (a.there[p] && b.there[q] && p % a.w == q % b.w + dx && p / a.w == q / b.w + dy) {
                    lesses.add(a.height(p) - b.height(q));
                    commonAndSum[0]++;
                    commonAndSum[1] += a.height(p) - b.height(q);
                }
            }
        }
        return lesses;
    }

    int stitch(int one, int two, int dx, int dy, int what) {
        if (!has(one) || !has(two) || Math.max(dx, dy) > 4 || Math.min(dx, dy) < -4 || what < 0 || what > 2) {
            return NO_HEIGHT;
        }
        int[] commonAndSum = new int[2];
        TreeSet<Integer> lesses = lessesOf(one, two, dx, dy, commonAndSum);
        return what < 2 ? commonAndSum[what] : lesses.isEmpty() ? 0 : lesses.last() - lesses.first();
    }

    int best(int one, int two, boolean down) {
        if (!has(one) || !has(two)) {
            return -9;
        }
        int[] best = null;
        for (int dx = -2; dx <= 2; dx++) {
            for (int dy = -2; dy <= 2; dy++) {
                int common = stitch(one, two, dx, dy, 0);
                int[] this1 = {stitch(one, two, dx, dy, 2), -common, dy, dx};
                if (common >= 2 && (best == null || Arrays.compare(this1, best) < 0)) {
                    best = this1;
                }
            }
        }
        return best == null ? -9 : best[down ? 2 : 3];
    }

    int flat(int one, int two, int three, int y, int x, int which) {
        int[] sums = new int[3];
        int[] pictures = {one, two, three};
        for (int i = 0; i < 3; i++) {
            int k = pictures[i];
            if (!has(k) || told(k).w != told(one).w || x < 0 || x >= told(k).w || y < 0 || y >= told(k).h) {
                return NO_HEIGHT;
            }
            int left = y * told(k).w + x;
            int right = y * told(k).w + told(k).w - 1 - x;
            if (!there(k, left) || !there(k, right)) {
                return NO_HEIGHT;
            }
            sums[i] = grid(k).height(left) + grid(k).height(right);
        }
        return which < 0 || which > 2 ? NO_HEIGHT : sums[0] + sums[1] + sums[2] - 2 * sums[2 - which];
    }

    int drawn(int picture, int seed, int k, int what) {
        if (!has(picture) || k < 1 || k > 20 || what < 0 || what > 2 || grid(picture).countThere() == 0) {
            return NONE;
        }
        Grid grid = other(picture);
        List<Integer> there = new ArrayList<>();
        for (int p = 0; p < grid.size(); p++) {
            if (grid.there[p]) {
                there.add(p);
            }
        }
        long x = seed & 0xffffffffL;
        for (int i = 0; i < k; i++) {
            x = (x * 1103515245L + 12345L) & 0xffffffffL;
            int p = there.get((int) ((x >> 16) % there.size()));
            x = (x * 1103515245L + 12345L) & 0xffffffffL;
            grid.phase[p] = (int) ((grid.phase[p] + (x >> 16) % 400) % 400);
        }
        int phases = 0;
        for (int p : there) {
            phases += grid.phase[p];
        }
        return what == 0 ? grid.solve().cost : what == 1 ? grid.fours().size() : phases;
    }

    int test(int test, int k, int what) {
        if (test < 0 || test >= now.tests.size()) {
            return NONE;
        }
        List<int[]> limits = now.tests.get(test);
        if (k == NONE) {
            return what == 0 ? limits.size() : NONE;
        }
        return k < 0 || k >= limits.size() || what < 0 || what > 1 ? NONE : limits.get(k)[what];
    }

    int fails(int picture, int test, boolean many) {
        if (!has(picture) || test < 0 || test >= now.tests.size()) {
            return NONE;
        }
        Grid grid = grid(picture);
        int high = 0;
        for (int part = 0; part < grid.parts; part++) {
            high = Math.max(high, part(picture, part, 4));
        }
        int[] values = {grid.cost, grid.size() - grid.countThere(), grid.parts, grid.fours().size(), high,
            picture(picture, 9)};
        List<Integer> failing = new ArrayList<>();
        List<int[]> limits = now.tests.get(test);
        for (int k = 0; k < limits.size(); k++) {
            if (values[limits.get(k)[0]] > limits.get(k)[1]) {
                failing.add(k);
            }
        }
        return many ? failing.size() : failing.isEmpty() ? NONE : failing.get(0);
    }

    int round(int picture, int x, int y, int w, int h) {
        return has(picture) ? grid(picture).round(x, y, w, h) : -100;
    }

    int paired(int picture) {
        if (!has(picture)) {
            return NONE;
        }
        Grid grid = grid(picture);
        return pair(grid, grid.fours(), 0, new HashMap<>());
    }

    /** The least for the fours that are not in a set. */
    private static int pair(Grid grid, List<int[]> fours, int set, Map<Integer, Integer> known) {
        int first = Integer.numberOfTrailingZeros(~set);
        if (first >= fours.size()) {
            return 0;
        }
        Integer before = known.get(set);
        if (before != null) {
            return before;
        }
        int[] one = fours.get(first);
        int edge = Math.min(Math.min(one[0] + 1, one[1] + 1), Math.min(grid.w - 1 - one[0], grid.h - 1 - one[1]));
        int best = edge + pair(grid, fours, set | 1 << first, known);
        for (int i = first + 1; i < fours.size(); i++) {
            int[] two = fours.get(i);
            if ((set >> i & 1) == 0 && one[2] != two[2]) {
                int apart = Math.abs(one[0] - two[0]) + Math.abs(one[1] - two[1]);
                best = Math.min(best, apart + pair(grid, fours, set | 1 << first | 1 << i, known));
            }
        }
        known.put(set, best);
        return best;
    }

    int above(int picture, int height) {
        if (!has(picture)) {
            return NONE;
        }
        int n = 0;
        for (int p = 0; p < grid(picture).size(); p++) {
            n += there(picture, p) && grid(picture).height(p) > height ? 1 : 0;
        }
        return n;
    }

    int fringes(int picture, int s) {
        if (!has(picture) || s < 1 || s > 9999) {
            return NONE;
        }
        int n = 0;
        Grid grid = grid(picture);
        for (int[] pair : grid.pairs()) {
            long one = (long) Math.floor((double) grid.height(pair[0]) / s);
            long two = (long) Math.floor((double) grid.height(pair[1]) / s);
            n += one != two ? 1 : 0;
        }
        return n;
    }

    int tough(int picture, int p) {
        if (!there(picture, p)) {
            return NONE;
        }
        for (int more = 1; more <= 399; more++) {
            Grid grid = other(picture);
            grid.phase[p] = (grid.phase[p] + more) % 400;
            if (grid.solve().cost != grid(picture).cost) {
                return more;
            }
        }
        return NONE;
    }

    int dim(int picture, int least, int what) {
        if (!has(picture) || least < 1 || least > 198 || what < 0 || what > 2) {
            return NONE;
        }
        Grid grid = gridOf(told(picture), least).solve();
        return what == 0 ? grid.countThere() : what == 1 ? grid.parts : grid.cost;
    }

    int solid(int picture, int w) {
        if (!has(picture) || w < 1 || w > 9) {
            return NONE;
        }
        Grid grid = other(picture);
        for (int p = 0; p < grid.size(); p++) {
            grid.there[p] &= grid.weight[p] >= w;
        }
        grid.findParts();
        return grid.parts;
    }
}
