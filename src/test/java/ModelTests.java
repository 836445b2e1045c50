import java.util.Random;

/**
 * Runs of calls, drawn by a seed, on the program and on the model; and the model's turns against
 * all turns there could be, for small pictures.
 */
public final class ModelTests {
    private static final int RUNS = 1500;
    private static final int CALLS = 100;
    private static final String[] PICTURE_LINES = {"size", "step", "phase", "hole", "weight", "least"};
    private static final String[] TEST_LINES = {"cost", "lost", "parts", "fours", "high", "wrong"};
    private static final String[] ODD = {"", " ", "\n", ";", "0", "12345", "400", "x", "A", "\u00ff", "size", "cost 1;", "hole", "-", "25"};

    private final Kit kit = new Kit("ModelTests");
    private final Random random;
    private FringeBench bench;
    private Model model;

    private ModelTests(long seed) {
        random = new Random(seed);
    }

    public static void main(String[] args) {
        ModelTests tests = new ModelTests(args.length > 0 ? Long.parseLong(args[0]) : 20261119L);
        int runs = args.length > 1 ? Integer.parseInt(args[1]) : RUNS;
        for (int small = 0; small < 300; small++) {
            tests.tryAllTurns();
        }
        for (int run = 0; run < runs && tests.kit.isClean(); run++) {
            tests.oneRun(run);
        }
        tests.kit.finish();
    }

    // ---- the model against all turns

    private void tryAllTurns() {
        Model.Grid grid = random.nextBoolean() ? new Model.Grid(2, 2) : random.nextBoolean() ? new Model.Grid(3, 2) : new Model.Grid(2, 3);
        for (int p = 0; p < grid.size(); p++) {
            grid.phase[p] = random.nextInt(400);
            grid.weight[p] = 1 + random.nextInt(random.nextBoolean() ? 1 : 9);
            grid.there[p] = random.nextInt(8) > 0;
        }
        grid.solve();
        int[] least = new int[grid.size()];
        int[] most = new int[grid.size()];
        int best = Integer.MAX_VALUE;
        int all = (int) Math.pow(7, grid.size());
        int[] t = new int[grid.size()];
        for (int number = 0; number < all; number++) {
            if (spell(number, t, grid)) {
                int cost = grid.costOf(t);
                if (cost < best) {
                    best = cost;
                    System.arraycopy(t, 0, least, 0, t.length);
                    System.arraycopy(t, 0, most, 0, t.length);
                }
                for (int p = 0; cost == best && p < t.length; p++) {
                    least[p] = Math.min(least[p], t[p]);
                    most[p] = Math.max(most[p], t[p]);
                }
            }
        }
        kit.due("all turns: COST", grid.cost, best);
        for (int p = 0; p < t.length; p++) {
            kit.due("all turns: TURNS of " + p, grid.turns[p], least[p]);
            kit.due("all turns: MOST of " + p, grid.most[p], most[p]);
        }
    }

    /** A number's digits by 7 as turns; false if one that must be 0 is not. */
    private static boolean spell(int number, int[] t, Model.Grid grid) {
        int rest = number;
        for (int p = 0; p < t.length; p++) {
            t[p] = rest % 7 - 3;
            rest /= 7;
            boolean fixed = !grid.there[p] || grid.leastPixel(grid.part[p]) == p;
            if (fixed && t[p] != 0) {
                return false;
            }
        }
        return true;
    }

    // ---- the program against the model

    private void oneRun(int run) {
        bench = new FringeBench();
        model = new Model();
        int texts = random.nextInt(5);
        for (int i = 0; i < texts; i++) {
            feedText(run, pictureText());
            text(run, 0, FringeBench.NONE);
        }
        if (random.nextBoolean()) {
            feedText(run, testText());
            text(run, 1, FringeBench.NONE);
        }
        for (int call = 0; call < CALLS; call++) {
            oneCall(run, random.nextInt(40));
        }
    }

    private void feedText(int run, String signs) {
        kit.due(run + ": end 0", bench.end(0), model.end(0));
        for (int at = 0; at < signs.length(); at += 20) {
            int[] v = new int[5];
            for (int i = 0; i < 20; i++) {
                v[i / 4] = v[i / 4] << 8 | (at + i < signs.length() ? signs.charAt(at + i) & 255 : 32);
            }
            kit.due(run + ": feed", bench.feed(v[0], v[1], v[2], v[3], v[4]), model.feed(v[0], v[1], v[2], v[3], v[4]));
        }
        int length = Math.min(signs.length(), 600);
        kit.due(run + ": end", bench.end(length), model.end(length));
    }

    private void text(int run, int sort, int at) {
        kit.due(run + ": text", bench.text(sort, at), model.text(sort, at));
        for (int what = -1; what <= 2; what++) {
            kit.due(run + ": fault " + what, bench.fault(what), model.fault(what));
        }
    }

    private int from(int least, int most) {
        return least + random.nextInt(most - least + 1);
    }

    private String pictureText() {
        StringBuilder text = new StringBuilder();
        int w = from(2, 5);
        int h = from(2, 5);
        text.append("size ").append(w).append(' ').append(h).append(';');
        int n = w * h;
        int kind = random.nextInt(5);
        if (kind < 3) {
            text.append("phase 0");
            int slopeX = from(-250, 250);
            int slopeY = from(-250, 250);
            int noise = kind == 0 ? 400 : from(1, 300);
            for (int p = 0; p < n; p++) {
                int phase = p % w * slopeX + p / w * slopeY + random.nextInt(noise);
                text.append(' ').append(Math.floorMod(kind == 0 ? random.nextInt(8) * 50 : phase, 400));
            }
            text.append(';');
        }
        if (kind >= 2) {
            int most = random.nextInt(4) == 0 ? 3 : 99;
            for (int step = 0; step < 4; step++) {
                text.append("step ").append(step).append(" 0");
                for (int p = 0; p < n; p++) {
                    text.append(' ').append(random.nextInt(most + 1));
                }
                text.append(';');
            }
            if (random.nextBoolean()) {
                text.append("least ").append(from(1, 60)).append(';');
            }
        }
        for (int i = random.nextInt(4) * random.nextInt(3); i > 0; i--) {
            text.append("hole ").append(random.nextInt(n)).append(';');
        }
        int weights = random.nextBoolean() ? 0 : random.nextInt(2) == 0 ? n : 5;
        for (int i = 0; i < weights && text.length() < 580; i++) {
            text.append("weight ").append(weights == n ? i : random.nextInt(n)).append(' ').append(from(1, 9)).append(';');
        }
        return random.nextInt(8) == 0 ? spoiled(text.toString(), PICTURE_LINES) : text.toString();
    }

    private String testText() {
        StringBuilder text = new StringBuilder();
        for (int i = random.nextInt(10); i > 0; i--) {
            String line = TEST_LINES[random.nextInt(6)];
            int most = line.equals("high") ? 1500 : line.equals("wrong") || line.equals("lost") ? 20 : 6;
            text.append(line).append(' ').append(random.nextInt(most)).append(';');
        }
        return random.nextInt(3) == 0 ? spoiled(text.toString(), TEST_LINES) : text.toString();
    }

    /** A text with some lines more, and something odd in it. */
    private String spoiled(String text, String[] lines) {
        StringBuilder other = new StringBuilder(text.length() < 400 ? text : text.substring(0, 400));
        for (int i = random.nextInt(4); i > 0; i--) {
            other.append(lines[random.nextInt(6)]);
            for (int k = from(1, 4); k > 0; k--) {
                other.append(' ').append(random.nextInt(random.nextBoolean() ? 6 : 30));
            }
            other.append(';');
        }
        for (int i = random.nextInt(3); i > 0; i--) {
            int at = random.nextInt(other.length() + 1);
            if (random.nextBoolean()) {
                other.setLength(at);
                other.append(random.nextBoolean() ? "  " : ";");
            } else {
                other.insert(at, ODD[random.nextInt(ODD.length)]);
            }
        }
        return other.toString();
    }

    private int somePicture() {
        return random.nextInt(12) == 0 ? from(-2, 4) : random.nextInt(Math.max(1, model.count(0)));
    }

    private int somePixel(int picture) {
        int n = Math.max(4, model.picture(picture, 0) * model.picture(picture, 1));
        return random.nextInt(10) == 0 ? from(-2, 26) : random.nextInt(n);
    }

    private void oneCall(int run, int sort) {
        int p = somePicture();
        int q = somePicture();
        int a = somePixel(p);
        int b = a + new int[] {1, -1, 2, 3, 4, 5, -2, -3, -4, -5}[random.nextInt(10)];
        int x = from(-1, 5);
        int y = from(-1, 5);
        int what = from(-1, 5);
        boolean flag = random.nextBoolean();
        String call = "run " + run + ", sort " + sort + ", " + p + " " + q + " " + a + " " + b + " " + x + " " + y + " " + what + " " + flag;
        switch (sort) {
            case 0:
                feedText(run, pictureText());
                text(run, 0, random.nextInt(3) - 1);
                break;
            case 1:
                feedText(run, random.nextBoolean() ? testText() : spoiled("", random.nextBoolean() ? TEST_LINES : PICTURE_LINES));
                text(run, from(-1, 2) == 0 ? 0 : 1, from(-2, 2));
                break;
            case 2:
                kit.due(call, bench.image(what), model.image(what));
                break;
            case 3:
                kit.due(call, bench.again(what), model.again(what));
                break;
            case 4:
                kit.due(call, bench.count(what), model.count(what));
                break;
            case 5:
                kit.due(call, bench.test(x / 3, y, what), model.test(x / 3, y, what));
                break;
            case 6:
            case 7:
                kit.due(call, bench.fails(p, x / 3, flag), model.fails(p, x / 3, flag));
                break;
            case 8:
                int r = somePicture();
                kit.due(call + " " + r, bench.flat(p, q, r, y, x, what), model.flat(p, q, r, y, x, what));
                break;
            case 9:
                kit.due(call, bench.flat(0, 1, 2, y, x, what), model.flat(0, 1, 2, y, x, what));
                break;
            case 10:
                // The model tries all 399 numbers, each by solving anew.
                if (random.nextInt(20) == 0) {
                    kit.due(call, bench.tough(p, a), model.tough(p, a));
                }
                break;
            case 11:
                whole(call, p);
                break;
            default:
                oneQuestion(call, sort, new int[] {p, q, a, b, x, y, what}, flag);
                break;
        }
    }

    private void oneQuestion(String call, int sort, int[] v, boolean flag) {
        int p = v[0];
        int q = v[1];
        int a = v[2];
        int b = v[3];
        int x = v[4];
        int y = v[5];
        int what = v[6];
        int seed = random.nextInt();
        switch (sort % 14) {
            case 0:
                kit.due(call, bench.differ(p, a, b, flag), model.differ(p, a, b, flag));
                break;
            case 1:
                kit.due(call, bench.four(p, x, y), model.four(p, x, y));
                break;
            case 2:
                kit.due(call, bench.part(p, x, what), model.part(p, x, what));
                break;
            case 3:
                kit.due(call, bench.plane(p, x, what), model.plane(p, x, what));
                break;
            case 4:
                kit.due(call, bench.out(p, a, flag), model.out(p, a, flag));
                break;
            case 5:
                kit.due(call, bench.heavy(p, a, 2 * x), model.heavy(p, a, 2 * x));
                break;
            case 6:
                kit.due(call, bench.stitch(p, q, x, y - 4, what), model.stitch(p, q, x, y - 4, what));
                break;
            case 7:
                kit.due(call, bench.best(p, q, flag), model.best(p, q, flag));
                break;
            case 8:
                kit.due(call, bench.drawn(p, seed, 4 * x + 1, what), model.drawn(p, seed, 4 * x + 1, what));
                break;
            case 9:
                kit.due(call, bench.round(p, x, y, what, b), model.round(p, x, y, what, b));
                kit.due(call, bench.round(p, x / 2, y / 2, what / 2 + 1, a % 4), model.round(p, x / 2, y / 2, what / 2 + 1, a % 4));
                break;
            case 10:
                kit.due(call, bench.paired(p), model.paired(p));
                break;
            case 11:
                int height = from(-900, 1200);
                kit.due(call, bench.above(p, height), model.above(p, height));
                kit.due(call, bench.fringes(p, height), model.fringes(p, height));
                break;
            case 12:
                int least = random.nextInt(9) == 0 ? from(-2, 200) : from(1, 80);
                kit.due(call, bench.dim(p, least, what), model.dim(p, least, what));
                break;
            default:
                kit.due(call, bench.solid(p, 2 * x), model.solid(p, 2 * x));
                break;
        }
    }

    /** All of a picture. */
    private void whole(String call, int p) {
        for (int what = -1; what <= 13; what++) {
            kit.due(call + " picture " + what, bench.picture(p, what), model.picture(p, what));
        }
        for (int pixel = -1; pixel <= 25; pixel++) {
            for (int what = -1; what <= 8; what++) {
                kit.due(call + " pixel " + pixel + " " + what, bench.pixel(p, pixel, what), model.pixel(p, pixel, what));
            }
            for (int what = -1; what <= 5; what++) {
                kit.due(call + " height " + pixel + " " + what, bench.height(p, pixel, what), model.height(p, pixel, what));
            }
        }
    }
}
