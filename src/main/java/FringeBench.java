import java.util.Arrays;

/**
 * Fringe bench: pictures of light fringes, told as texts, with their phases, parts, turns and
 * heights, and tests with limits. What each call answers stands in the document (DOC.md).
 */
public final class FringeBench {
    public static final int NONE = -1;

    private static final int NO_SUCH = -2;
    private static final int NO_HEIGHT = -1000000;
    private static final int NO_ROUND = -100;
    private static final int NO_SHIFT = -9;

    private static final int MOST_BYTES = 600;
    private static final int MOST_PIXELS = 25;
    private static final int MOST_JOINTS = 40;
    private static final int MOST_PICTURES = 3;
    private static final int MOST_TESTS = 2;
    private static final int MOST_LIMITS = 8;
    private static final int IMAGES = 3;
    private static final int MOST_LEAST = 198;
    private static final int MOST_WEIGHT = 9;
    private static final int TURN = 400;

    private static final int PICTURE = 0;
    private static final int TEST = 1;

    private final Told now = new Told();
    private final Told[] images = {new Told(), new Told(), new Told()};
    private final boolean[] imaged = new boolean[IMAGES];
    private final Reader reader = new Reader(now.tape);
    /** The heights of each picture as it stands, found when they are first asked for. */
    private final Heights[] found = {new Heights(), new Heights(), new Heights()};
    private final boolean[] isFound = new boolean[MOST_PICTURES];
    /** The heights of a picture as it would be if something was otherwise. */
    private final Heights supposed = new Heights();
    private final Pairing pairing = new Pairing();
    private final Plane fitted = new Plane();
    private final Stitching stitching = new Stitching();

    public FringeBench() {
    }

    // ---- the tape and the texts

    public int feed(int a, int b, int c, int d, int e) {
        if (now.length > MOST_BYTES - 20) {
            return NONE;
        }
        now.append(a);
        now.append(b);
        now.append(c);
        now.append(d);
        now.append(e);
        return now.length;
    }

    public int end(int n) {
        if (n < 0 || n > now.length) {
            return NONE;
        }
        now.length = n;
        return n;
    }

    public int text(int sort, int at) {
        int length = now.length;
        now.length = 0;
        now.fault = 0;
        now.place = NONE;
        int place = placeOf(sort, at);
        if (place == NO_SUCH) {
            return NO_SUCH;
        }
        reader.read(sort, length);
        now.fault = reader.fault;
        now.place = reader.place;
        if (reader.fault != 0) {
            return NONE;
        }
        if (sort == PICTURE) {
            now.pictures[place].copy(reader.told);
            now.pictureCount = Math.max(now.pictureCount, place + 1);
            isFound[place] = false;
        } else {
            now.trials[place].copy(reader.trial);
            now.trialCount = Math.max(now.trialCount, place + 1);
        }
        return place;
    }

    /** Where a text of a sort goes: NO_SUCH if it can't go there. */
    private int placeOf(int sort, int at) {
        if (sort != PICTURE && sort != TEST) {
            return NO_SUCH;
        }
        int have = sort == PICTURE ? now.pictureCount : now.trialCount;
        int may = sort == PICTURE ? MOST_PICTURES : MOST_TESTS;
        if (at == NONE) {
            return have < may ? have : NO_SUCH;
        }
        return at >= 0 && at < have && at < may ? at : NO_SUCH;
    }

    public int fault(int what) {
        if (what == 0) {
            return now.fault;
        }
        return what == 1 ? now.place : NONE;
    }

    public int count(int sort) {
        if (sort == PICTURE) {
            return now.pictureCount;
        }
        return sort == TEST ? now.trialCount : NO_SUCH;
    }

    public boolean image(int k) {
        if (k < 0 || k >= IMAGES) {
            return false;
        }
        images[k].copy(now);
        imaged[k] = true;
        return true;
    }

    public boolean again(int k) {
        if (k < 0 || k >= IMAGES || !imaged[k]) {
            return false;
        }
        now.copy(images[k]);
        wipe(isFound);
        return true;
    }

    private static void wipe(boolean[] marks) {
        for (int i = 0; i < marks.length; i++) {
            marks[i] = false;
        }
    }

    // ---- what is there

    private boolean isPicture(int picture) {
        return picture >= 0 && picture < now.pictureCount && picture < MOST_PICTURES;
    }

    private boolean isPixel(int picture, int pixel) {
        return isPicture(picture) && pixel >= 0 && pixel < now.pictures[picture].size();
    }

    private boolean isThere(int picture, int pixel) {
        return isPixel(picture, pixel) && heightsOf(picture).scene.there[pixel];
    }

    private boolean isPart(int picture, int part) {
        return isPicture(picture) && part >= 0 && part < heightsOf(picture).scene.parts;
    }

    private boolean isTest(int test) {
        return test >= 0 && test < now.trialCount && test < MOST_TESTS;
    }

    /** Of a picture that is there: its heights. */
    private Heights heightsOf(int picture) {
        Heights heights = found[picture];
        if (!isFound[picture]) {
            Picture told = now.pictures[picture];
            heights.scene.take(told, told.least);
            heights.solve();
            isFound[picture] = true;
        }
        return heights;
    }

    /** Of a picture that is there: a scene that may be changed before its cost is asked for. */
    private Heights supposedOf(int picture) {
        Picture told = now.pictures[picture];
        supposed.scene.take(told, told.least);
        return supposed;
    }

    // ---- pictures and their pixels

    public int picture(int picture, int what) {
        if (!isPicture(picture) || what < 0 || what > 12) {
            return NO_SUCH;
        }
        Picture told = now.pictures[picture];
        Heights heights = heightsOf(picture);
        switch (what) {
            case 0:
                return told.columns;
            case 1:
                return told.rows;
            case 2:
                return told.least;
            case 3:
                return heights.scene.countThere();
            case 4:
                return heights.scene.parts;
            case 5:
                return heights.scene.countFours(1);
            case 6:
                return heights.scene.countFours(-1);
            case 7:
                return heights.cost;
            case 8:
                return heights.countLeaps();
            case 9:
                return heights.countWrong();
            case 10:
                return mendOf(picture, heights);
            case 11:
                return heights.roughest();
            default:
                return heights.countSure();
        }
    }

    private int mendOf(int picture, Heights heights) {
        int mend = NONE;
        int least = heights.cost;
        for (int pixel = 0; pixel < heights.scene.size; pixel++) {
            if (heights.scene.there[pixel]) {
                int cost = costWithout(picture, pixel);
                if (cost < least) {
                    least = cost;
                    mend = pixel;
                }
            }
        }
        return mend;
    }

    private int costWithout(int picture, int pixel) {
        Heights heights = supposedOf(picture);
        heights.scene.there[pixel] = false;
        return heights.findCost();
    }

    public int pixel(int picture, int pixel, int what) {
        if (!isPixel(picture, pixel) || what < 0 || what > 7) {
            return NO_SUCH;
        }
        Picture told = now.pictures[picture];
        switch (what) {
            case 4:
                return told.weights[pixel];
            case 5:
                return told.contrastOf(pixel);
            case 6:
                return told.phaseOf(pixel, told.least);
            case 7:
                return told.holes[pixel] ? 1 : 0;
            default:
                return told.steps[what * MOST_PIXELS + pixel];
        }
    }

    public int height(int picture, int pixel, int what) {
        if (what < 0 || what > 4 || !isThere(picture, pixel)) {
            return NO_HEIGHT;
        }
        Heights heights = heightsOf(picture);
        switch (what) {
            case 0:
                return heights.scene.partOf[pixel];
            case 1:
                return heights.turns[pixel];
            case 2:
                return heights.most[pixel];
            case 3:
                return heights.heightOf(pixel);
            default:
                return heights.scene.walked[pixel];
        }
    }

    public int differ(int picture, int a, int b, boolean leap) {
        if (!isThere(picture, a) || !isThere(picture, b)) {
            return NO_HEIGHT;
        }
        Heights heights = heightsOf(picture);
        if (!heights.scene.areBeside(a, b)) {
            return NO_HEIGHT;
        }
        return leap ? heights.leapOf(a, b) : heights.scene.difference(a, b);
    }

    public int four(int picture, int x, int y) {
        int four = round(picture, x, y, 1, 1);
        return four == NO_ROUND ? NO_SUCH : four;
    }

    public int round(int picture, int x, int y, int w, int h) {
        if (!isPicture(picture)) {
            return NO_ROUND;
        }
        return heightsOf(picture).scene.around(x, y, w, h);
    }

    public int paired(int picture) {
        return isPicture(picture) ? pairing.leastOf(heightsOf(picture).scene) : NONE;
    }

    public int above(int picture, int height) {
        return isPicture(picture) ? heightsOf(picture).countAbove(height) : NONE;
    }

    public int fringes(int picture, int s) {
        return isPicture(picture) && s >= 1 && s <= 9999 ? heightsOf(picture).countFringes(s) : NONE;
    }

    // ---- parts

    public int part(int picture, int part, int what) {
        if (what < 0 || what > 4 || !isPart(picture, part)) {
            return NO_HEIGHT;
        }
        Heights heights = heightsOf(picture);
        switch (what) {
            case 0:
                return heights.scene.sizeOf(part);
            case 1:
                return heights.scene.leastPixelOf(part);
            case 2:
                return heights.lowestOf(part);
            case 3:
                return heights.highestOf(part);
            default:
                return heights.highestOf(part) - heights.lowestOf(part);
        }
    }

    public long plane(int picture, int part, int what) {
        if (what < 0 || what > 4 || !isPart(picture, part)) {
            return Long.MIN_VALUE;
        }
        fitted.fit(heightsOf(picture), part);
        return fitted.answer(what);
    }

    // ---- what would be if

    public int out(int picture, int pixel, boolean others) {
        if (!isThere(picture, pixel)) {
            return NONE;
        }
        if (!others) {
            return costWithout(picture, pixel);
        }
        Heights then = supposedOf(picture);
        then.scene.there[pixel] = false;
        then.solve();
        return countMoved(then, heightsOf(picture));
    }

    private static int countMoved(Heights then, Heights before) {
        int moved = 0;
        for (int pixel = 0; pixel < then.scene.size; pixel++) {
            if (then.scene.there[pixel]) {
                int least = then.scene.leastPixelOf(then.scene.partOf[pixel]);
                if (least != NONE && then.heightOf(pixel) - then.heightOf(least)
                        != before.heightOf(pixel) - before.heightOf(least)) {
                    moved++;
                }
            }
        }
        return moved;
    }

    public int heavy(int picture, int pixel, int weight) {
        if (weight < 1 || weight > MOST_WEIGHT || !isPixel(picture, pixel)) {
            return NONE;
        }
        Heights heights = supposedOf(picture);
        heights.scene.weights[pixel] = weight;
        return heights.findCost();
    }

    public int drawn(int picture, int seed, int k, int what) {
        if (!isPicture(picture) || k < 1 || k > 20 || what < 0 || what > 2) {
            return NONE;
        }
        Heights heights = supposedOf(picture);
        if (heights.scene.countThere() == 0) {
            return NONE;
        }
        heights.scene.draw(seed, k);
        switch (what) {
            case 0:
                return heights.findCost();
            case 1:
                return heights.scene.countFours(1) + heights.scene.countFours(-1);
            default:
                return heights.scene.sumOfPhases();
        }
    }

    public int tough(int picture, int pixel) {
        if (!isThere(picture, pixel)) {
            return NONE;
        }
        int cost = heightsOf(picture).cost;
        Scene scene = supposedOf(picture).scene;
        for (int more = 1; more < TURN; more++) {
            // Between two wraps of a difference no turn is lost or won: only there the cost can change.
            if (scene.raise(pixel) && supposed.findCost() != cost) {
                return more;
            }
        }
        return NONE;
    }

    public int dim(int picture, int least, int what) {
        if (!isPicture(picture) || least < 1 || least > MOST_LEAST || what < 0 || what > 2) {
            return NONE;
        }
        supposed.scene.take(now.pictures[picture], least);
        int cost = supposed.findCost();
        if (what == 0) {
            return supposed.scene.countThere();
        }
        return what == 1 ? supposed.scene.parts : cost;
    }

    public int solid(int picture, int w) {
        if (!isPicture(picture) || w < 1 || w > MOST_WEIGHT) {
            return NONE;
        }
        Scene scene = supposedOf(picture).scene;
        for (int pixel = 0; pixel < scene.size; pixel++) {
            if (scene.weights[pixel] < w) {
                scene.there[pixel] = false;
            }
        }
        scene.walk();
        return scene.parts;
    }

    // ---- several pictures

    public int stitch(int one, int two, int dx, int dy, int what) {
        if (!isPicture(one) || !isPicture(two) || what < 0 || what > 2
                || dx < -4 || dx > 4 || dy < -4 || dy > 4) {
            return NO_HEIGHT;
        }
        stitching.lay(heightsOf(one), heightsOf(two), dx, dy);
        switch (what) {
            case 0:
                return stitching.common;
            case 1:
                return stitching.sum;
            default:
                return stitching.apart();
        }
    }

    public int best(int one, int two, boolean down) {
        if (!isPicture(one) || !isPicture(two)) {
            return NO_SHIFT;
        }
        int best = NO_SHIFT;
        int leastApart = 0;
        int mostCommon = 0;
        for (int dy = -2; dy <= 2; dy++) {
            for (int dx = -2; dx <= 2; dx++) {
                stitching.lay(heightsOf(one), heightsOf(two), dx, dy);
                int apart = stitching.apart();
                int common = stitching.common;
                if (common >= 2 && (best == NO_SHIFT || apart < leastApart
                        || apart == leastApart && common > mostCommon)) {
                    best = down ? dy : dx;
                    leastApart = apart;
                    mostCommon = common;
                }
            }
        }
        return best;
    }

    public int flat(int one, int two, int three, int y, int x, int which) {
        if (which < 0 || which > 2 || !isPicture(one) || !isPicture(two) || !isPicture(three)) {
            return NO_HEIGHT;
        }
        Heights a = heightsOf(one);
        Heights b = heightsOf(two);
        Heights c = heightsOf(three);
        if (a.scene.columns != b.scene.columns || a.scene.columns != c.scene.columns
                || !a.scene.hasMirrored(x, y) || !b.scene.hasMirrored(x, y) || !c.scene.hasMirrored(x, y)) {
            return NO_HEIGHT;
        }
        int first = a.mirroredSum(x, y);
        int second = b.mirroredSum(x, y);
        int third = c.mirroredSum(x, y);
        switch (which) {
            case 0:
                return first + second - third;
            case 1:
                return first + third - second;
            default:
                return second + third - first;
        }
    }

    // ---- tests

    public int test(int test, int k, int what) {
        if (!isTest(test)) {
            return NONE;
        }
        Trial trial = now.trials[test];
        if (k == NONE) {
            return what == 0 ? trial.limits : NONE;
        }
        if (k < 0 || k >= trial.limits || what < 0 || what > 1) {
            return NONE;
        }
        return what == 0 ? trial.kinds[k] : trial.numbers[k];
    }

    public int fails(int picture, int test, boolean many) {
        if (!isPicture(picture) || !isTest(test)) {
            return NONE;
        }
        Heights heights = heightsOf(picture);
        Trial trial = now.trials[test];
        int first = NONE;
        int failing = 0;
        for (int k = 0; k < trial.limits; k++) {
            if (named(heights, trial.kinds[k]) > trial.numbers[k]) {
                failing++;
                if (first == NONE) {
                    first = k;
                }
            }
        }
        return many ? failing : first;
    }

    /** What a limit of a kind names. */
    private static int named(Heights heights, int kind) {
        switch (kind) {
            case 0:
                return heights.cost;
            case 1:
                return heights.scene.size - heights.scene.countThere();
            case 2:
                return heights.scene.parts;
            case 3:
                return heights.scene.countFours(1) + heights.scene.countFours(-1);
            case 4:
                return heights.greatestHigh();
            default:
                return heights.countWrong();
        }
    }

    // ---- the classes inside

    /** A picture as it was told. */
    private static final class Picture {
        int columns;
        int rows;
        int least;
        /** Step s of a pixel stands at s * MOST_PIXELS + pixel. */
        final int[] steps = new int[4 * MOST_PIXELS];
        final int[] weights = new int[MOST_PIXELS];
        /** NONE where no phase was told. */
        final int[] phases = new int[MOST_PIXELS];
        final boolean[] holes = new boolean[MOST_PIXELS];

        Picture() {
            clear();
        }

        void clear() {
            columns = 3;
            rows = 3;
            least = 1;
            Arrays.fill(steps, 0);
            Arrays.fill(weights, 1);
            Arrays.fill(phases, NONE);
            wipe(holes);
        }

        void copy(Picture from) {
            columns = from.columns;
            rows = from.rows;
            least = from.least;
            System.arraycopy(from.steps, 0, steps, 0, steps.length);
            System.arraycopy(from.weights, 0, weights, 0, weights.length);
            System.arraycopy(from.phases, 0, phases, 0, phases.length);
            for (int pixel = 0; pixel < MOST_PIXELS; pixel++) {
                holes[pixel] = from.holes[pixel];
            }
        }

        int size() {
            return columns * rows;
        }

        /** Of a pixel: step one less step two. */
        private int less(int pixel, int one, int two) {
            return steps[one * MOST_PIXELS + pixel] - steps[two * MOST_PIXELS + pixel];
        }

        int contrastOf(int pixel) {
            return Math.abs(less(pixel, 0, 2)) + Math.abs(less(pixel, 1, 3));
        }

        /** The phase of a pixel if LEAST was so much. */
        int phaseOf(int pixel, int needed) {
            if (phases[pixel] != NONE) {
                return phases[pixel];
            }
            int x = less(pixel, 0, 2);
            int y = less(pixel, 1, 3);
            int contrast = contrastOf(pixel);
            if (contrast < needed || contrast == 0) {
                return NONE;
            }
            if (x > 0 && y >= 0) {
                return 100 * y / contrast;
            }
            if (x <= 0 && y > 0) {
                return 100 - 100 * x / contrast;
            }
            if (x < 0) {
                return 200 - 100 * y / contrast;
            }
            return 300 + 100 * x / contrast;
        }
    }

    /** A test as it was told. */
    private static final class Trial {
        int limits;
        final int[] kinds = new int[MOST_LIMITS];
        final int[] numbers = new int[MOST_LIMITS];

        void copy(Trial from) {
            limits = from.limits;
            System.arraycopy(from.kinds, 0, kinds, 0, MOST_LIMITS);
            System.arraycopy(from.numbers, 0, numbers, 0, MOST_LIMITS);
        }
    }

    /** All that is told: what an image keeps. */
    private static final class Told {
        final byte[] tape = new byte[MOST_BYTES];
        int length;
        final Picture[] pictures = {new Picture(), new Picture(), new Picture()};
        int pictureCount;
        final Trial[] trials = {new Trial(), new Trial()};
        int trialCount;
        int fault;
        int place = NONE;

        void copy(Told from) {
            System.arraycopy(from.tape, 0, tape, 0, MOST_BYTES);
            length = from.length;
            for (int i = 0; i < MOST_PICTURES; i++) {
                pictures[i].copy(from.pictures[i]);
            }
            pictureCount = from.pictureCount;
            for (int i = 0; i < MOST_TESTS; i++) {
                trials[i].copy(from.trials[i]);
            }
            trialCount = from.trialCount;
            fault = from.fault;
            place = from.place;
        }

        /** The four bytes of a number, the highest first. */
        void append(int number) {
            for (int shift = 24; shift >= 0; shift -= 8) {
                if (length < MOST_BYTES) {
                    tape[length] = (byte) (number >>> shift);
                    length++;
                }
            }
        }
    }

    /** Reads the tape as a text: what it tells, or its first fault. */
    private static final class Reader {
        private static final int END = 0;
        private static final int WORD = 1;
        private static final int NUMBER = 2;
        private static final int SEMICOLON = 3;
        private static final int OTHER = 4;

        private static final int SIZE = 0;
        private static final int STEP = 1;
        private static final int PHASE = 2;
        private static final int HOLE = 3;
        private static final int WEIGHT = 4;
        private static final int WORDS = 6;

        private final byte[] tape;
        private int length;
        /** The latest token: what it is, its first byte, the byte behind it. */
        private int token;
        private int start;
        private int stop;
        private int number;
        /** The step and the first pixel that a line is about. */
        private int which;
        private int first;
        private final boolean[] mentioned = new boolean[MOST_PIXELS];

        final Picture told = new Picture();
        final Trial trial = new Trial();
        int fault;
        int place;

        Reader(byte[] tape) {
            this.tape = tape;
        }

        void read(int sort, int tapeLength) {
            length = Math.min(tapeLength, tape.length);
            stop = 0;
            fault = 0;
            place = NONE;
            told.clear();
            trial.limits = 0;
            wipe(mentioned);
            boolean goesOn = true;
            for (int line = 0; goesOn && line <= length; line++) {
                next();
                goesOn = token != END && readLine(sort);
            }
            if (fault == 0 && sort == PICTURE && mentionsMissing()) {
                fault = 4;
                place = length;
            }
        }

        private boolean mentionsMissing() {
            for (int pixel = told.size(); pixel < MOST_PIXELS; pixel++) {
                if (mentioned[pixel]) {
                    return true;
                }
            }
            return false;
        }

        /** One line, whose first token has been read; false if no text goes on with it. */
        private boolean readLine(int sort) {
            int line = token == WORD ? lineOf(sort) : NONE;
            if (line == NONE) {
                return refuse();
            }
            if (sort == TEST) {
                openLimit(line);
            }
            for (int i = 0; i <= length; i++) {
                next();
                if (token == NUMBER && i < mostNumbers(sort, line)) {
                    takeNumber(sort, line, i);
                } else {
                    return token == SEMICOLON && i >= fewestNumbers(sort, line) || refuse();
                }
            }
            return refuse();
        }

        private boolean refuse() {
            fault = 1;
            place = start;
            return false;
        }

        /** The first fault of a number or a limit stands. */
        private void mark(int what) {
            if (fault == 0) {
                fault = what;
                place = start;
            }
        }

        private void next() {
            start = stop;
            for (int i = stop; i < length && (tape[i] == 10 || tape[i] == 32); i++) {
                start = i + 1;
            }
            if (start >= length) {
                start = length;
                stop = length;
                token = END;
                return;
            }
            stop = start + 1;
            if (tape[start] == ';') {
                token = SEMICOLON;
            } else if (isLetter(tape[start])) {
                token = WORD;
                for (int i = stop; i < length && isLetter(tape[i]); i++) {
                    stop = i + 1;
                }
            } else if (isDigit(tape[start])) {
                readDigits();
            } else {
                token = OTHER;
            }
        }

        private void readDigits() {
            number = 0;
            stop = start;
            for (int i = start; i < length && isDigit(tape[i]); i++) {
                stop = i + 1;
                if (stop - start <= 4) {
                    number = number * 10 + tape[i] - '0';
                }
            }
            token = stop - start <= 4 ? NUMBER : OTHER;
        }

        private static boolean isLetter(byte sign) {
            return sign >= 'a' && sign <= 'z';
        }

        private static boolean isDigit(byte sign) {
            return sign >= '0' && sign <= '9';
        }

        /** What sort of line the latest token opens: NONE for none. */
        private int lineOf(int sort) {
            for (int line = 0; line < WORDS; line++) {
                if (isToken(sort == PICTURE ? pictureWord(line) : testWord(line))) {
                    return line;
                }
            }
            return NONE;
        }

        private boolean isToken(String word) {
            if (word.length() != stop - start) {
                return false;
            }
            for (int i = 0; i < word.length(); i++) {
                if (tape[start + i] != word.charAt(i)) {
                    return false;
                }
            }
            return true;
        }

        private static String pictureWord(int line) {
            switch (line) {
                case SIZE:
                    return "size";
                case STEP:
                    return "step";
                case PHASE:
                    return "phase";
                case HOLE:
                    return "hole";
                case WEIGHT:
                    return "weight";
                default:
                    return "least";
            }
        }

        /** In the order of the kinds of limits. */
        private static String testWord(int line) {
            switch (line) {
                case 0:
                    return "cost";
                case 1:
                    return "lost";
                case 2:
                    return "parts";
                case 3:
                    return "fours";
                case 4:
                    return "high";
                default:
                    return "wrong";
            }
        }

        private static int fewestNumbers(int sort, int line) {
            if (sort == TEST) {
                return 1;
            }
            switch (line) {
                case STEP:
                    return 3;
                case SIZE:
                case PHASE:
                case WEIGHT:
                    return 2;
                default:
                    return 1;
            }
        }

        private static int mostNumbers(int sort, int line) {
            boolean isRow = sort == PICTURE && (line == STEP || line == PHASE || line == HOLE);
            return isRow ? MOST_BYTES : fewestNumbers(sort, line);
        }

        private void openLimit(int kind) {
            if (trial.limits >= MOST_LIMITS) {
                mark(3);
            } else {
                trial.kinds[trial.limits] = kind;
                trial.limits++;
            }
        }

        /** Number i of a line; behind a fault nothing that is told counts any more. */
        private void takeNumber(int sort, int line, int i) {
            if (fault != 0) {
                return;
            }
            if (sort == TEST) {
                if (trial.limits >= 1 && trial.limits <= MOST_LIMITS) {
                    trial.numbers[trial.limits - 1] = number;
                }
                return;
            }
            switch (line) {
                case SIZE:
                    takeSize(i);
                    break;
                case STEP:
                    takeStep(i);
                    break;
                case PHASE:
                    takePhase(i);
                    break;
                case HOLE:
                    if (takePixel()) {
                        told.holes[number] = true;
                    }
                    break;
                case WEIGHT:
                    takeWeight(i);
                    break;
                default:
                    if (isFrom(1, MOST_LEAST)) {
                        told.least = number;
                    }
                    break;
            }
        }

        /** Whether the number is one of these; a fault if not. */
        private boolean isFrom(int least, int most) {
            if (number < least || number > most) {
                mark(2);
                return false;
            }
            return true;
        }

        private void takeSize(int i) {
            if (isFrom(2, 5)) {
                if (i == 0) {
                    told.columns = number;
                } else {
                    told.rows = number;
                }
            }
        }

        /** The number as the pixel that the line is about; a fault if there can't be one. */
        private boolean takePixel() {
            if (!isFrom(0, MOST_PIXELS - 1)) {
                return false;
            }
            first = number;
            mentioned[number] = true;
            return true;
        }

        /** The pixel so far behind the first one: NONE, and a fault, if there can't be one. */
        private int pixelBehind(int behind) {
            int pixel = first + behind;
            if (pixel < 0 || pixel >= MOST_PIXELS) {
                mark(2);
                return NONE;
            }
            mentioned[pixel] = true;
            return pixel;
        }

        private void takeStep(int i) {
            if (i == 0) {
                if (isFrom(0, 3)) {
                    which = number;
                }
            } else if (i == 1) {
                takePixel();
            } else if (isFrom(0, 99)) {
                int pixel = pixelBehind(i - 2);
                if (pixel != NONE) {
                    told.steps[which * MOST_PIXELS + pixel] = number;
                }
            }
        }

        private void takePhase(int i) {
            if (i == 0) {
                takePixel();
            } else if (isFrom(0, TURN - 1)) {
                int pixel = pixelBehind(i - 1);
                if (pixel != NONE) {
                    told.phases[pixel] = number;
                }
            }
        }

        private void takeWeight(int i) {
            if (i == 0) {
                takePixel();
            } else if (isFrom(1, MOST_WEIGHT)) {
                told.weights[first] = number;
            }
        }
    }

    /** What is there of a picture, its parts, and the walk through them. */
    private static final class Scene {
        int columns;
        int rows;
        int size;
        final boolean[] there = new boolean[MOST_PIXELS];
        final int[] phases = new int[MOST_PIXELS];
        final int[] weights = new int[MOST_PIXELS];
        int parts;
        final int[] partOf = new int[MOST_PIXELS];
        /** The heights along the walk. */
        final int[] walked = new int[MOST_PIXELS];
        private final boolean[] isWalked = new boolean[MOST_PIXELS];
        private final boolean[] isNear = new boolean[MOST_PIXELS];

        /** A picture as it would be with a LEAST. */
        void take(Picture told, int least) {
            columns = told.columns;
            rows = told.rows;
            size = Math.min(told.size(), MOST_PIXELS);
            parts = 0;
            for (int pixel = 0; pixel < size; pixel++) {
                phases[pixel] = told.phaseOf(pixel, least);
                weights[pixel] = told.weights[pixel];
                there[pixel] = phases[pixel] != NONE && !told.holes[pixel];
            }
        }

        /** The pixel beside another one, above, left, right, below: the least first; NONE for none. */
        int beside(int pixel, int side) {
            if (columns < 2) {
                return NONE;
            }
            int x = pixel % columns;
            switch (side) {
                case 0:
                    return pixel >= columns ? pixel - columns : NONE;
                case 1:
                    return x > 0 ? pixel - 1 : NONE;
                case 2:
                    return x < columns - 1 ? pixel + 1 : NONE;
                default:
                    return pixel + columns < size ? pixel + columns : NONE;
            }
        }

        boolean areBeside(int one, int two) {
            for (int side = 0; side < 4; side++) {
                if (beside(one, side) == two) {
                    return true;
                }
            }
            return false;
        }

        /** The lesser pixel is the first one for the turns, whichever is asked for first. */
        int difference(int one, int two) {
            int difference = one < two ? phases[two] - phases[one] : phases[one] - phases[two];
            if (difference < -TURN / 2) {
                difference += TURN;
            } else if (difference >= TURN / 2) {
                difference -= TURN;
            }
            return one < two ? difference : -difference;
        }

        int countThere() {
            int n = 0;
            for (int pixel = 0; pixel < size; pixel++) {
                if (there[pixel]) {
                    n++;
                }
            }
            return n;
        }

        int sumOfPhases() {
            int sum = 0;
            for (int pixel = 0; pixel < size; pixel++) {
                if (there[pixel]) {
                    sum += phases[pixel];
                }
            }
            return sum;
        }

        /** Walks through all parts, the least pixel that can be reached first, and numbers them. */
        void walk() {
            parts = 0;
            wipe(isWalked);
            wipe(isNear);
            for (int i = 0; i < size; i++) {
                int pixel = nextToWalk();
                if (pixel == NONE) {
                    return;
                }
                int from = leastWalkedBeside(pixel);
                if (from == NONE) {
                    partOf[pixel] = parts;
                    parts++;
                    walked[pixel] = phases[pixel];
                } else {
                    partOf[pixel] = partOf[from];
                    walked[pixel] = walked[from] + difference(from, pixel);
                }
                isWalked[pixel] = true;
                markNear(pixel);
            }
        }

        /** The least pixel beside a walked one, else the least one of a new part. */
        private int nextToWalk() {
            int fresh = NONE;
            for (int pixel = 0; pixel < size; pixel++) {
                if (there[pixel] && !isWalked[pixel]) {
                    if (isNear[pixel]) {
                        return pixel;
                    }
                    if (fresh == NONE) {
                        fresh = pixel;
                    }
                }
            }
            return fresh;
        }

        private int leastWalkedBeside(int pixel) {
            for (int side = 0; side < 4; side++) {
                int other = beside(pixel, side);
                if (other != NONE && isWalked[other]) {
                    return other;
                }
            }
            return NONE;
        }

        private void markNear(int pixel) {
            for (int side = 0; side < 4; side++) {
                int other = beside(pixel, side);
                if (other != NONE) {
                    isNear[other] = true;
                }
            }
        }

        int sizeOf(int part) {
            int n = 0;
            for (int pixel = 0; pixel < size; pixel++) {
                if (there[pixel] && partOf[pixel] == part) {
                    n++;
                }
            }
            return n;
        }

        int leastPixelOf(int part) {
            for (int pixel = 0; pixel < size; pixel++) {
                if (there[pixel] && partOf[pixel] == part) {
                    return pixel;
                }
            }
            return NONE;
        }

        /** Whether the pixel at x, y is there, and the one as far from the other side of the row. */
        boolean hasMirrored(int x, int y) {
            return x >= 0 && x < columns && y >= 0 && y < rows
                    && there[y * columns + x] && there[y * columns + columns - 1 - x];
        }

        private boolean hasFrame(int x, int y, int w, int h) {
            return x >= 0 && x < columns && y >= 0 && y < rows
                    && w >= 1 && w <= columns - 1 - x && h >= 1 && h <= rows - 1 - y;
        }

        /** The differences round a frame, in turns; NO_ROUND if there is no such round. */
        int around(int x, int y, int w, int h) {
            if (!hasFrame(x, y, w, h)) {
                return NO_ROUND;
            }
            int at = y * columns + x;
            int sum = 0;
            for (int i = 0; i < 2 * (w + h); i++) {
                int next = at + stepAround(i, w, h);
                if (!there[at] || !there[next]) {
                    return NO_ROUND;
                }
                sum += difference(at, next);
                at = next;
            }
            return sum / TURN;
        }

        /** How far step i round a frame leads: right, down, left, up. */
        private int stepAround(int i, int w, int h) {
            if (i < w) {
                return 1;
            }
            if (i < w + h) {
                return columns;
            }
            return i < 2 * w + h ? -1 : -columns;
        }

        int countFours(int kind) {
            int n = 0;
            for (int y = 0; y < rows - 1; y++) {
                for (int x = 0; x < columns - 1; x++) {
                    if (around(x, y, 1, 1) == kind) {
                        n++;
                    }
                }
            }
            return n;
        }

        /** Makes the phase of a pixel greater by 1; true if a difference to one beside it wraps. */
        boolean raise(int pixel) {
            int before = phases[pixel];
            int after = (before + 1) % TURN;
            boolean wraps = false;
            for (int side = 0; side < 4; side++) {
                int other = beside(pixel, side);
                if (other != NONE && there[other]) {
                    phases[pixel] = before;
                    int old = difference(pixel, other);
                    phases[pixel] = after;
                    if (difference(pixel, other) != old - 1) {
                        wraps = true;
                    }
                }
            }
            phases[pixel] = after;
            return wraps;
        }

        /** Changes phases of pixels by a seed; at least one pixel must be there. */
        void draw(int seed, int times) {
            int n = countThere();
            if (n == 0) {
                return;
            }
            int x = seed;
            for (int i = 0; i < times; i++) {
                x = x * 1103515245 + 12345;
                int pixel = pixelThere((x >>> 16) % n);
                x = x * 1103515245 + 12345;
                int more = (x >>> 16) % TURN;
                if (pixel != NONE) {
                    phases[pixel] = (phases[pixel] + more) % TURN;
                }
            }
        }

        /** The pixel before which so many are there. */
        private int pixelThere(int before) {
            int left = before;
            for (int pixel = 0; pixel < size; pixel++) {
                if (there[pixel]) {
                    if (left == 0) {
                        return pixel;
                    }
                    left--;
                }
            }
            return NONE;
        }
    }

    /**
     * The turns of a scene with the least cost. The walk's turns are taken as they are, and what
     * still does not close is a jump at a joint of two pixels. The least cost is the most that a
     * flow round the joints, each with its lesser weight as limit, can earn from the jumps; and the
     * turns with that cost are those that keep to the way such a flow leaves open, so that the
     * nearest and the farthest of them are shortest ways there.
     */
    private static final class Heights {
        private static final int FAR = 1000000;

        final Scene scene = new Scene();
        int cost;
        final int[] turns = new int[MOST_PIXELS];
        final int[] most = new int[MOST_PIXELS];

        private int joints;
        private final int[] from = new int[MOST_JOINTS];
        private final int[] to = new int[MOST_JOINTS];
        private final int[] jump = new int[MOST_JOINTS];
        private final int[] limit = new int[MOST_JOINTS];
        private final int[] flow = new int[MOST_JOINTS];

        private final int[] surplus = new int[MOST_PIXELS];
        private final int[] way = new int[MOST_PIXELS];
        /** The joint by which the shortest way comes: 2 * joint along it, 1 more against it. */
        private final int[] by = new int[MOST_PIXELS];

        /** The cost, and the turns, of what the scene is now. */
        void solve() {
            findCost();
            findTurns(true);
            findTurns(false);
        }

        /** The cost alone, and the parts. */
        int findCost() {
            scene.walk();
            join();
            startFlow();
            // Each time at least one unit of surplus goes, and there are at most 9 for each joint.
            boolean moved = true;
            for (int i = 0; moved && i < MOST_WEIGHT * MOST_JOINTS; i++) {
                moved = moveSurplus();
            }
            cost = 0;
            for (int joint = 0; joint < joints; joint++) {
                cost -= flow[joint] * jump[joint];
            }
            return cost;
        }

        private void join() {
            joints = 0;
            for (int pixel = 0; pixel < scene.size; pixel++) {
                for (int side = 2; side < 4; side++) {
                    int other = scene.beside(pixel, side);
                    if (other != NONE && scene.there[pixel] && scene.there[other] && joints < MOST_JOINTS) {
                        addJoint(pixel, other);
                    }
                }
            }
        }

        private void addJoint(int one, int two) {
            int rise = scene.walked[two] - scene.walked[one];
            from[joints] = one;
            to[joints] = two;
            jump[joints] = (scene.difference(one, two) - rise) / TURN;
            limit[joints] = Math.min(scene.weights[one], scene.weights[two]);
            joints++;
        }

        /** Each joint for itself earns the most that it can; what does not add up is surplus. */
        private void startFlow() {
            Arrays.fill(surplus, 0);
            for (int joint = 0; joint < joints; joint++) {
                flow[joint] = jump[joint] > 0 ? -limit[joint] : jump[joint] < 0 ? limit[joint] : 0;
                surplus[to[joint]] += flow[joint];
                surplus[from[joint]] -= flow[joint];
            }
        }

        /** Moves surplus by the cheapest way to where it lacks; false if there is none. */
        private boolean moveSurplus() {
            boolean has = false;
            for (int pixel = 0; pixel < scene.size; pixel++) {
                boolean isSource = surplus[pixel] > 0;
                way[pixel] = isSource ? 0 : FAR;
                has = has || isSource;
            }
            if (!has) {
                return false;
            }
            spread(true);
            int end = NONE;
            for (int pixel = 0; pixel < scene.size; pixel++) {
                if (surplus[pixel] < 0 && way[pixel] < FAR && (end == NONE || way[pixel] < way[end])) {
                    end = pixel;
                }
            }
            return end != NONE && push(end);
        }

        /** The shortest ways from where they are 0 (or, not onward, to there), over open joints. */
        private void spread(boolean onward) {
            Arrays.fill(by, NONE);
            boolean changed = true;
            for (int i = 0; changed && i <= scene.size; i++) {
                changed = false;
                for (int joint = 0; joint < joints; joint++) {
                    int one = onward ? from[joint] : to[joint];
                    int two = onward ? to[joint] : from[joint];
                    if (flow[joint] < limit[joint] && way[one] < FAR && way[one] + jump[joint] < way[two]) {
                        way[two] = way[one] + jump[joint];
                        by[two] = 2 * joint;
                        changed = true;
                    }
                    if (flow[joint] > -limit[joint] && way[two] < FAR && way[two] - jump[joint] < way[one]) {
                        way[one] = way[two] - jump[joint];
                        by[one] = 2 * joint + 1;
                        changed = true;
                    }
                }
            }
        }

        /** Pushes as much as can go along the way that ends at a pixel; false if that is nothing. */
        private boolean push(int end) {
            int much = -surplus[end];
            int at = end;
            for (int i = 0; i < scene.size && by[at] != NONE; i++) {
                int joint = by[at] / 2;
                boolean along = by[at] % 2 == 0;
                much = Math.min(much, along ? limit[joint] - flow[joint] : limit[joint] + flow[joint]);
                at = along ? from[joint] : to[joint];
            }
            much = Math.min(much, surplus[at]);
            if (much <= 0) {
                return false;
            }
            surplus[at] -= much;
            surplus[end] += much;
            at = end;
            for (int i = 0; i < scene.size && by[at] != NONE; i++) {
                int joint = by[at] / 2;
                boolean along = by[at] % 2 == 0;
                flow[joint] += along ? much : -much;
                at = along ? from[joint] : to[joint];
            }
            return true;
        }

        /** The greatest turns with the least cost, or the least ones, from the finished flow. */
        private void findTurns(boolean greatest) {
            int part = 0;
            for (int pixel = 0; pixel < scene.size; pixel++) {
                boolean isLeast = scene.there[pixel] && scene.partOf[pixel] == part;
                way[pixel] = isLeast ? 0 : FAR;
                part += isLeast ? 1 : 0;
            }
            spread(greatest);
            for (int pixel = 0; pixel < scene.size; pixel++) {
                if (scene.there[pixel]) {
                    int start = (scene.walked[pixel] - scene.phases[pixel]) / TURN;
                    if (greatest) {
                        most[pixel] = start + way[pixel];
                    } else {
                        turns[pixel] = start - way[pixel];
                    }
                }
            }
        }

        int heightOf(int pixel) {
            return scene.phases[pixel] + TURN * turns[pixel];
        }

        /** The heights at x and as far from the other side of row y, together. */
        int mirroredSum(int x, int y) {
            int row = y * scene.columns;
            return heightOf(row + x) + heightOf(row + scene.columns - 1 - x);
        }

        int leapOf(int one, int two) {
            return (heightOf(two) - heightOf(one) - scene.difference(one, two)) / TURN;
        }

        int countLeaps() {
            int n = 0;
            for (int joint = 0; joint < joints; joint++) {
                if (leapOf(from[joint], to[joint]) != 0) {
                    n++;
                }
            }
            return n;
        }

        int countWrong() {
            int n = 0;
            for (int pixel = 0; pixel < scene.size; pixel++) {
                if (scene.there[pixel] && scene.walked[pixel] != heightOf(pixel)) {
                    n++;
                }
            }
            return n;
        }

        int countSure() {
            int n = 0;
            for (int pixel = 0; pixel < scene.size; pixel++) {
                if (scene.there[pixel] && most[pixel] == turns[pixel]) {
                    n++;
                }
            }
            return n;
        }

        int countAbove(int height) {
            int n = 0;
            for (int pixel = 0; pixel < scene.size; pixel++) {
                if (scene.there[pixel] && heightOf(pixel) > height) {
                    n++;
                }
            }
            return n;
        }

        int countFringes(int s) {
            int n = 0;
            for (int joint = 0; s > 0 && joint < joints; joint++) {
                if (Math.floorDiv(heightOf(from[joint]), s) != Math.floorDiv(heightOf(to[joint]), s)) {
                    n++;
                }
            }
            return n;
        }

        /** The pixel whose leaps cost most; NONE if none costs anything. */
        int roughest() {
            int roughest = NONE;
            int greatest = 0;
            for (int pixel = 0; pixel < scene.size; pixel++) {
                int costs = 0;
                for (int joint = 0; joint < joints; joint++) {
                    if (from[joint] == pixel || to[joint] == pixel) {
                        costs += Math.abs(leapOf(from[joint], to[joint])) * limit[joint];
                    }
                }
                if (costs > greatest) {
                    greatest = costs;
                    roughest = pixel;
                }
            }
            return roughest;
        }

        int lowestOf(int part) {
            int lowest = Integer.MAX_VALUE;
            for (int pixel = 0; pixel < scene.size; pixel++) {
                if (scene.there[pixel] && scene.partOf[pixel] == part) {
                    lowest = Math.min(lowest, heightOf(pixel));
                }
            }
            return lowest;
        }

        int highestOf(int part) {
            int highest = Integer.MIN_VALUE;
            for (int pixel = 0; pixel < scene.size; pixel++) {
                if (scene.there[pixel] && scene.partOf[pixel] == part) {
                    highest = Math.max(highest, heightOf(pixel));
                }
            }
            return highest;
        }

        int greatestHigh() {
            int greatest = 0;
            for (int part = 0; part < scene.parts; part++) {
                greatest = Math.max(greatest, highestOf(part) - lowestOf(part));
            }
            return greatest;
        }
    }

    /** Two pictures' heights, one laid on the other. */
    private static final class Stitching {
        int common;
        int sum;
        private int least;
        private int greatest;

        void lay(Heights one, Heights two, int dx, int dy) {
            common = 0;
            sum = 0;
            for (int y = 0; y < two.scene.rows; y++) {
                for (int x = 0; x < two.scene.columns; x++) {
                    int onX = x + dx;
                    int onY = y + dy;
                    if (onX >= 0 && onX < one.scene.columns && onY >= 0 && onY < one.scene.rows) {
                        meet(one, onY * one.scene.columns + onX, two, y * two.scene.columns + x);
                    }
                }
            }
        }

        private void meet(Heights one, int first, Heights two, int second) {
            if (!one.scene.there[first] || !two.scene.there[second]) {
                return;
            }
            int less = one.heightOf(first) - two.heightOf(second);
            least = common == 0 ? less : Math.min(least, less);
            greatest = common == 0 ? less : Math.max(greatest, less);
            common++;
            sum += less;
        }

        int apart() {
            return common == 0 ? 0 : greatest - least;
        }
    }

    /** The plane nearest to the heights of a part, by sums of x, y, the heights z and products. */
    private static final class Plane {
        private long n;
        private long x;
        private long y;
        private long xx;
        private long xy;
        private long yy;
        private long z;
        private long xz;
        private long yz;
        private long zz;

        void fit(Heights heights, int part) {
            clear();
            Scene scene = heights.scene;
            for (int row = 0; row < scene.rows; row++) {
                for (int column = 0; column < scene.columns; column++) {
                    int pixel = row * scene.columns + column;
                    if (scene.there[pixel] && scene.partOf[pixel] == part) {
                        add(column, row, heights.heightOf(pixel));
                    }
                }
            }
        }

        private void clear() {
            n = 0;
            x = 0;
            y = 0;
            xx = 0;
            xy = 0;
            yy = 0;
            z = 0;
            xz = 0;
            yz = 0;
            zz = 0;
        }

        private void add(long column, long row, long height) {
            n++;
            x += column;
            y += row;
            xx += column * column;
            xy += column * row;
            yy += row * row;
            z += height;
            xz += column * height;
            yz += row * height;
            zz += height * height;
        }

        /** A, B, C, D or OFF; the least long if there is no plane. */
        long answer(int what) {
            long d = n * (xx * yy - xy * xy) - x * (x * yy - xy * y) + y * (x * xy - xx * y);
            if (d == 0) {
                return Long.MIN_VALUE;
            }
            long a = z * (xx * yy - xy * xy) - x * (xz * yy - xy * yz) + y * (xz * xy - xx * yz);
            long b = n * (xz * yy - xy * yz) - z * (x * yy - xy * y) + y * (x * yz - xz * y);
            long c = n * (xx * yz - xz * xy) - x * (x * yz - xz * y) + z * (x * xy - xx * y);
            switch (what) {
                case 0:
                    return a;
                case 1:
                    return b;
                case 2:
                    return c;
                case 3:
                    return d;
                default:
                    return d * zz - a * z - b * xz - c * yz;
            }
        }
    }

    /** Pairs the fours that are 1 with those that are -1, or with the edge. */
    private static final class Pairing {
        private static final int MOST_FOURS = 16;
        private static final int MOST_FEW = 8;
        private static final int FAR = 1000000;

        /** Those of the kind that is rarer, and the others: where they are, and how far the edge is. */
        private int few;
        private final int[] fewX = new int[MOST_FOURS];
        private final int[] fewY = new int[MOST_FOURS];
        private final int[] fewEdge = new int[MOST_FOURS];
        private int many;
        private final int[] manyX = new int[MOST_FOURS];
        private final int[] manyY = new int[MOST_FOURS];
        private final int[] manyEdge = new int[MOST_FOURS];
        /** By the set of the rarer ones that are paired: the least for the others up to now. */
        private final int[] least = new int[1 << MOST_FEW];

        int leastOf(Scene scene) {
            int rare = scene.countFours(1) <= scene.countFours(-1) ? 1 : -1;
            few = gather(scene, rare, fewX, fewY, fewEdge);
            many = gather(scene, -rare, manyX, manyY, manyEdge);
            if (few > MOST_FEW) {
                return NONE;
            }
            Arrays.fill(least, FAR);
            least[0] = 0;
            for (int one = 0; one < many; one++) {
                pairOne(one);
            }
            int best = FAR;
            for (int set = 0; set < 1 << few; set++) {
                best = Math.min(best, least[set] + edgesOutside(set));
            }
            return best;
        }

        private static int gather(Scene scene, int kind, int[] xs, int[] ys, int[] edges) {
            int n = 0;
            for (int y = 0; y < scene.rows - 1; y++) {
                for (int x = 0; x < scene.columns - 1; x++) {
                    if (n < MOST_FOURS && scene.around(x, y, 1, 1) == kind) {
                        xs[n] = x;
                        ys[n] = y;
                        edges[n] = Math.min(Math.min(x + 1, y + 1),
                                Math.min(scene.columns - 1 - x, scene.rows - 1 - y));
                        n++;
                    }
                }
            }
            return n;
        }

        /** The greater sets first, so that what a smaller one had before still stands. */
        private void pairOne(int one) {
            for (int set = (1 << few) - 1; set >= 0; set--) {
                int best = least[set] + manyEdge[one];
                for (int i = 0; i < few; i++) {
                    if ((set >> i & 1) == 1) {
                        int apart = Math.abs(manyX[one] - fewX[i]) + Math.abs(manyY[one] - fewY[i]);
                        best = Math.min(best, least[set ^ 1 << i] + apart);
                    }
                }
                least[set] = Math.min(best, FAR);
            }
        }

        private int edgesOutside(int set) {
            int sum = 0;
            for (int i = 0; i < few; i++) {
                if ((set >> i & 1) == 0) {
                    sum += fewEdge[i];
                }
            }
            return sum;
        }
    }
}
