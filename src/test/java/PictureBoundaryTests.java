/**
 * The boundary cases of what is read from a picture as it stands: terms 2, 3 and 5, and promises 6
 * to 12 and 21 to 24 of the document, each in a test of its own.
 */
public final class PictureBoundaryTests {
    private static final int NONE = FringeBench.NONE;
    private static final int NO_HEIGHT = -1000000;
    private static final int LEAST = Integer.MIN_VALUE;
    private static final int GREATEST = Integer.MAX_VALUE;
    /** Numbers of pictures that there are not, where there are two. */
    private static final int[] NO_PICTURES = {-1, -2, 2, 3, LEAST, GREATEST};
    private static final String VORTEX = "size 2 2;phase 0 0 100 300 200;";
    /** The same the other way round. */
    private static final String ANTI = "size 2 2;phase 0 0 300 100 200;";
    /** 5 by 5 of zeros. */
    private static final String ZEROS = "size 5 5;phase 0" + Kit.repeated(" 0", 25) + ";";
    /** Round the edge of 5 by 5, from 0 to the right. */
    private static final int[] RING = {0, 1, 2, 3, 4, 9, 14, 19, 24, 23, 22, 21, 20, 15, 10, 5};
    /** To and fro through 5 by 5. */
    private static final int[] SNAKE = {0, 1, 2, 3, 4, 9, 14, 13, 12, 11, 10, 15, 20, 21, 22, 23, 24};

    private final Kit kit = new Kit("PictureBoundaryTests");

    public static void main(String[] args) throws IllegalAccessException {
        PictureBoundaryTests tests = new PictureBoundaryTests();
        tests.kit.runEach(tests);
        tests.kit.finish();
    }

    /** 5 by 5, the pixels of a way alone, each so much more than the one before. */
    private static String along(int[] way, int more) {
        StringBuilder text = new StringBuilder("size 5 5;");
        for (int i = 0; i < way.length; i++) {
            text.append("phase ").append(way[i]).append(' ').append(i * more % 400).append(';');
        }
        return text.toString();
    }

    /** Seven turns round the edge of 5 by 5, and nothing within. */
    private static FringeBench ring() {
        return Kit.withPictures(along(RING, 175), along(RING, 225));
    }

    // ---- term 2: CONTRAST and PHASE

    private void phaseOf(int x, int y, int contrast, int phase) {
        FringeBench b = Kit.withPictures("step " + (x > 0 ? 0 : 2) + " 0 " + Math.abs(x) + ";step "
                + (y > 0 ? 1 : 3) + " 0 " + Math.abs(y) + ";");
        kit.due(x + ", " + y + ": CONTRAST", b.pixel(0, 0, 5), contrast);
        kit.due(x + ", " + y + ": PHASE", b.pixel(0, 0, 6), phase);
        kit.due(x + ", " + y + ": THERE", b.picture(0, 3), phase == NONE ? 0 : 1);
    }

    private void phasesAtTheQuarters() {
        phaseOf(1, 0, 1, 0);
        phaseOf(0, 1, 1, 100);
        phaseOf(-1, 0, 1, 200);
        phaseOf(0, -1, 1, 300);
        phaseOf(99, 0, 99, 0);
        phaseOf(0, 99, 99, 100);
        phaseOf(-99, 0, 99, 200);
        phaseOf(0, -99, 99, 300);
    }

    private void phasesNextToTheQuarters() {
        phaseOf(99, 1, 100, 1);
        phaseOf(1, 99, 100, 99);
        phaseOf(-1, 99, 100, 101);
        phaseOf(-99, 1, 100, 199);
        phaseOf(-99, -1, 100, 201);
        phaseOf(-1, -99, 100, 299);
        phaseOf(1, -99, 100, 301);
        phaseOf(99, -1, 100, 399);
    }

    private void phasesAreCut() {
        phaseOf(2, 1, 3, 33);
        phaseOf(1, 2, 3, 66);
        phaseOf(-1, 2, 3, 133);
        phaseOf(-2, 1, 3, 166);
        phaseOf(-2, -1, 3, 233);
        phaseOf(-1, -2, 3, 266);
        phaseOf(1, -2, 3, 333);
        phaseOf(2, -1, 3, 366);
    }

    private void theGreatestContrast() {
        phaseOf(99, 99, 198, 50);
        phaseOf(-99, 99, 198, 150);
        phaseOf(-99, -99, 198, 250);
        phaseOf(99, -99, 198, 350);
    }

    private void withoutContrastThereIsNoPhase() {
        phaseOf(0, 0, 0, NONE);
        FringeBench x = Kit.withPictures("step 0 0 99;step 1 0 98;step 2 0 99;step 3 0 98;");
        kit.due("like steps: CONTRAST", x.pixel(0, 0, 5), 0);
        kit.due("like steps: PHASE", x.pixel(0, 0, 6), NONE);
    }

    private void contrastMustBeLeastAtLeast() {
        FringeBench x = Kit.withPictures("least 10;step 0 0 9 10 11;");
        kit.due("9", x.pixel(0, 0, 6), NONE);
        kit.due("10", x.pixel(0, 1, 6), 0);
        kit.due("11", x.pixel(0, 2, 6), 0);
        kit.due("THERE", x.picture(0, 3), 2);
    }

    private void contrastMayBe198AtMost() {
        FringeBench x = Kit.withPictures("least 198;step 0 0 99 99;step 1 0 99 98;");
        kit.due("198", x.pixel(0, 0, 6), 50);
        kit.due("197", x.pixel(0, 1, 6), NONE);
    }

    private void aToldPhaseNeedsNoContrast() {
        FringeBench x = Kit.withPictures("least 198;phase 0 0;phase 1 5;step 0 1 0;step 1 1 99;");
        kit.due("PHASE 0 without CONTRAST", x.pixel(0, 0, 6), 0);
        kit.due("the told one counts", x.pixel(0, 1, 6), 5);
        kit.due("its CONTRAST", x.pixel(0, 1, 5), 99);
        kit.due("THERE", x.picture(0, 3), 2);
    }

    private void aHoleHasAPhaseAndIsNotThere() {
        FringeBench x = Kit.withPictures("phase 0 7 8;hole 0;");
        kit.due("PHASE", x.pixel(0, 0, 6), 7);
        kit.due("HEIGHT", x.height(0, 0, 3), NO_HEIGHT);
        kit.due("THERE", x.picture(0, 3), 1);
        kit.due("the other one", x.height(0, 1, 3), 8);
    }

    // ---- term 2: DIFFERENCE

    private void differs(int first, int second, int difference) {
        FringeBench x = Kit.withPictures("phase 0 " + first + " " + second + ";phase 3 " + second + ";");
        String pair = first + " to " + second;
        kit.due(pair, x.differ(0, 0, 1, false), difference);
        kit.due(pair + ", the greater PIXEL first", x.differ(0, 1, 0, false), -difference);
        kit.due(pair + ", in a column", x.differ(0, 0, 3, false), difference);
        kit.due(pair + ", up a column", x.differ(0, 3, 0, false), -difference);
    }

    private void differencesAre199AtMost() {
        differs(0, 199, 199);
        differs(200, 399, 199);
        differs(201, 0, 199);
        differs(399, 198, 199);
    }

    private void differencesAreMinus200AtLeast() {
        differs(0, 200, -200);
        differs(200, 0, -200);
        differs(199, 399, -200);
        differs(399, 199, -200);
        differs(0, 201, -199);
        differs(199, 0, -199);
    }

    private void differencesGoOverTheTurn() {
        differs(0, 399, -1);
        differs(399, 0, 1);
        differs(398, 1, 3);
        differs(1, 398, -3);
    }

    private void likePhasesDifferBy0() {
        differs(0, 0, 0);
        differs(399, 399, 0);
    }

    // ---- promise 9

    private void notBesideOneAnother() {
        FringeBench x = Kit.withPictures(ZEROS, VORTEX);
        for (int b = -1; b <= 25; b++) {
            boolean beside = b == 7 || b == 11 || b == 13 || b == 17;
            kit.due("12 and " + b, x.differ(0, 12, b, false), beside ? 0 : NO_HEIGHT);
            kit.due(b + " and 12, LEAP", x.differ(0, b, 12, true), beside ? 0 : NO_HEIGHT);
        }
        kit.due("the end of a row and the next row", x.differ(0, 4, 5, false), NO_HEIGHT);
        kit.due("the next row and the end of a row", x.differ(0, 10, 9, true), NO_HEIGHT);
        kit.due("two by two", x.differ(1, 1, 2, false), NO_HEIGHT);
        kit.due("itself", x.differ(1, 3, 3, false), NO_HEIGHT);
    }

    private void theCornersHave2Beside() {
        FringeBench x = Kit.withPictures(ZEROS);
        int[][] corners = {{0, 1, 5}, {4, 3, 9}, {20, 15, 21}, {24, 19, 23}};
        for (int[] corner : corners) {
            for (int b = -6; b <= 30; b++) {
                boolean beside = b == corner[1] || b == corner[2];
                kit.due(corner[0] + " and " + b, x.differ(0, corner[0], b, false), beside ? 0 : NO_HEIGHT);
            }
        }
    }

    private void oneThatIsNotThereDoesNotDiffer() {
        FringeBench x = Kit.withPictures("phase 0 0 0 0 0;hole 1;", "size 2 2;phase 0 0 0 0 0;");
        kit.due("a hole", x.differ(0, 0, 1, false), NO_HEIGHT);
        kit.due("a hole first", x.differ(0, 1, 2, true), NO_HEIGHT);
        kit.due("without a PHASE", x.differ(0, 3, 4, false), NO_HEIGHT);
        kit.due("pixel 4 of 4", x.differ(1, 3, 4, false), NO_HEIGHT);
        kit.due("pixel -1", x.differ(1, 0, -1, false), NO_HEIGHT);
        kit.due("the least, the greatest", x.differ(1, LEAST, GREATEST, true), NO_HEIGHT);
        for (int picture : NO_PICTURES) {
            kit.due("picture " + picture, x.differ(picture, 0, 1, false), NO_HEIGHT);
        }
    }

    private void leapsGoBothWays() {
        FringeBench x = ring();
        kit.due("7 turns down", x.differ(0, 0, 1, true), -7);
        kit.due("and back", x.differ(0, 1, 0, true), 7);
        kit.due("none to the other side", x.differ(0, 0, 5, true), 0);
        kit.due("the other way round", x.differ(1, 0, 5, true), -7);
        kit.due("and none there", x.differ(1, 1, 0, true), 0);
    }

    // ---- term 2 and promise 10: FOUR

    private void foursAreMinus1To1() {
        FringeBench x = Kit.withPictures(VORTEX, ANTI, "size 2 2;phase 0 0 100 200 300;");
        kit.due("1", x.four(0, 0, 0), 1);
        kit.due("-1", x.four(1, 0, 0), -1);
        kit.due("0", x.four(2, 0, 0), 0);
    }

    private void foursWithHalfATurn() {
        kit.due("0 200 0 0", Kit.withPictures("size 2 2;phase 0 0 200 0 0;").four(0, 0, 0), -1);
        kit.due("0 0 200 0", Kit.withPictures("size 2 2;phase 0 0 0 200 0;").four(0, 0, 0), 1);
        kit.due("200 0 0 0", Kit.withPictures("size 2 2;phase 0 200 0 0 0;").four(0, 0, 0), 0);
        kit.due("0 0 0 200", Kit.withPictures("size 2 2;phase 0 0 0 0 200;").four(0, 0, 0), 0);
        kit.due("0 200 200 0", Kit.withPictures("size 2 2;phase 0 0 200 200 0;").four(0, 0, 0), 0);
        kit.due("0 199 0 0", Kit.withPictures("size 2 2;phase 0 0 199 0 0;").four(0, 0, 0), 0);
        kit.due("0 201 0 0", Kit.withPictures("size 2 2;phase 0 0 201 0 0;").four(0, 0, 0), 0);
    }

    private void aFourOutsideIsNone() {
        for (int w = 2; w <= 5; w++) {
            for (int h = 2; h <= 5; h++) {
                FringeBench x = Kit.withPictures("size " + w + " " + h + ";phase 0" + Kit.repeated(" 9", w * h) + ";");
                for (int column = -1; column <= 5; column++) {
                    for (int row = -1; row <= 5; row++) {
                        boolean inside = column >= 0 && column < w - 1 && row >= 0 && row < h - 1;
                        kit.due(w + " by " + h + ": " + column + ", " + row, x.four(0, column, row), inside ? 0 : -2);
                    }
                }
            }
        }
    }

    private void aFourWithOneThatIsNotThereIsNone() {
        for (int hole = 0; hole < 4; hole++) {
            kit.due("hole " + hole, Kit.withPictures(VORTEX + "hole " + hole + ";").four(0, 0, 0), -2);
        }
        kit.due("without a PHASE", Kit.withPictures("size 2 2;phase 0 0 100 300;").four(0, 0, 0), -2);
    }

    private void aFourOfNoPictureIsNone() {
        FringeBench x = Kit.withPictures(VORTEX, ANTI);
        for (int picture : NO_PICTURES) {
            kit.due("picture " + picture, x.four(picture, 0, 0), -2);
        }
        kit.due("the greatest", x.four(0, GREATEST, GREATEST), -2);
        kit.due("the least", x.four(0, LEAST, LEAST), -2);
    }

    // ---- term 2 and promises 8, 11: PARTS

    private void partsAreNotJoinedAcross() {
        kit.due("1 and 2 of 2 by 2", Kit.withPictures("size 2 2;phase 1 0 0;").picture(0, 4), 2);
        kit.due("0 and 3 of 2 by 2", Kit.withPictures("size 2 2;phase 0 0;phase 3 0;").picture(0, 4), 2);
        kit.due("2 and 3 of 3 by 3", Kit.withPictures("phase 2 0 0;").picture(0, 4), 2);
        kit.due("1 and 3 of 2 by 2", Kit.withPictures("size 2 2;phase 1 0;phase 3 0;").picture(0, 4), 1);
    }

    private void partsMayBe13() {
        StringBuilder text = new StringBuilder("size 5 5;");
        for (int pixel = 0; pixel < 25; pixel += 2) {
            text.append("phase ").append(pixel).append(' ').append(pixel).append(';');
        }
        FringeBench x = Kit.withPictures(text.toString());
        kit.due("PARTS", x.picture(0, 4), 13);
        for (int part = 0; part < 13; part++) {
            kit.due("SIZE of " + part, x.part(0, part, 0), 1);
            kit.due("least PIXEL of " + part, x.part(0, part, 1), 2 * part);
            kit.due("least HEIGHT of " + part, x.part(0, part, 2), 2 * part);
            kit.due("greatest HEIGHT of " + part, x.part(0, part, 3), 2 * part);
            kit.due("HIGH of " + part, x.part(0, part, 4), 0);
            kit.due("PART of " + 2 * part, x.height(0, 2 * part, 0), part);
        }
        kit.due("part 13", x.part(0, 13, 0), NO_HEIGHT);
    }

    private void onePartMayBeAll() {
        FringeBench x = Kit.withPictures(ZEROS);
        kit.due("PARTS", x.picture(0, 4), 1);
        kit.due("SIZE", x.part(0, 0, 0), 25);
        kit.due("part 1", x.part(0, 1, 0), NO_HEIGHT);
        kit.due("PART of 24", x.height(0, 24, 0), 0);
    }

    private void withoutPixelsThereAreNoParts() {
        FringeBench x = Kit.withPictures("", "hole 0 1 2 3 4 5 6 7 8;phase 0 1 2 3 4 5 6 7 8 9;");
        for (int picture = 0; picture < 2; picture++) {
            kit.due("PARTS", x.picture(picture, 4), 0);
            kit.due("part 0", x.part(picture, 0, 0), NO_HEIGHT);
            kit.due("plane", x.plane(picture, 0, 0), Long.MIN_VALUE);
        }
    }

    private void partsAreNumberedByTheirLeastPixels() {
        // Told in another order than they are numbered.
        FringeBench x = Kit.withPictures("phase 1 0;phase 5 0;phase 3 0;phase 7 0;");
        kit.due("PARTS", x.picture(0, 4), 4);
        int[] least = {1, 3, 5, 7};
        for (int part = 0; part < 4; part++) {
            kit.due("least PIXEL of " + part, x.part(0, part, 1), least[part]);
        }
        // The part of 2 goes round below that of 0.
        FringeBench y = Kit.withPictures("size 3 3;phase 2 0;phase 5 0;phase 7 0 0;phase 0 0;phase 3 0;");
        kit.due("PART of 0", y.height(0, 0, 0), 0);
        kit.due("PART of 2", y.height(0, 2, 0), 1);
        kit.due("PART of 3", y.height(0, 3, 0), 0);
        kit.due("PART of 7", y.height(0, 7, 0), 1);
    }

    private void aPartThatIsNotThereIsNone() {
        FringeBench x = Kit.withPictures(VORTEX, "");
        for (int part : new int[] {1, -1, LEAST, GREATEST}) {
            kit.due("part " + part, x.part(0, part, 0), NO_HEIGHT);
            kit.due("plane of part " + part, x.plane(0, part, 3), Long.MIN_VALUE);
        }
        for (int what : new int[] {-1, 5, LEAST, GREATEST}) {
            kit.due("what " + what, x.part(0, 0, what), NO_HEIGHT);
            kit.due("plane, what " + what, x.plane(0, 0, what), Long.MIN_VALUE);
        }
        for (int picture : NO_PICTURES) {
            kit.due("picture " + picture, x.part(picture, 0, 0), NO_HEIGHT);
            kit.due("plane of picture " + picture, x.plane(picture, 0, 3), Long.MIN_VALUE);
        }
    }

    // ---- term 2 and promise 8: TURNS, MOST, HEIGHT

    private void turnsAreBelow0Too() {
        FringeBench x = Kit.withPictures("size 5 2;phase 0 0 250 100 350 200;");
        int[] turns = {0, -1, -1, -2, -2};
        for (int pixel = 0; pixel < 5; pixel++) {
            kit.due("TURNS of " + pixel, x.height(0, pixel, 1), turns[pixel]);
            kit.due("MOST of " + pixel, x.height(0, pixel, 2), turns[pixel]);
            kit.due("HEIGHT of " + pixel, x.height(0, pixel, 3), -150 * pixel);
            kit.due("WALKED of " + pixel, x.height(0, pixel, 4), -150 * pixel);
        }
    }

    private void heightsGoFarUp() {
        FringeBench x = Kit.withPictures(along(SNAKE, 199));
        for (int i = 0; i < SNAKE.length; i++) {
            kit.due("HEIGHT of " + SNAKE[i], x.height(0, SNAKE[i], 3), 199 * i);
            kit.due("WALKED of " + SNAKE[i], x.height(0, SNAKE[i], 4), 199 * i);
        }
        kit.due("TURNS of the last", x.height(0, 24, 1), 7);
        kit.due("HIGH", x.part(0, 0, 4), 3184);
        kit.due("COST", x.picture(0, 7), 0);
        kit.due("SURE", x.picture(0, 12), 17);
    }

    private void halfATurnGoesDownToTheGreaterPixel() {
        // By -200 to each greater pixel: in the middle row the way goes to the lesser one.
        FringeBench x = Kit.withPictures(along(SNAKE, 200));
        int[] down = {0, 1, 2, 3, 4, 5, 6, 5, 4, 3, 2, 3, 4, 5, 6, 7, 8};
        for (int i = 0; i < SNAKE.length; i++) {
            kit.due("HEIGHT of " + SNAKE[i], x.height(0, SNAKE[i], 3), -200 * down[i]);
        }
    }

    private void eachPartBeginsWith0Turns() {
        FringeBench x = Kit.withPictures("phase 0 399 0;phase 6 399 0;phase 5 399;");
        kit.due("PARTS", x.picture(0, 4), 3);
        for (int pixel : new int[] {0, 5, 6}) {
            kit.due("TURNS of " + pixel, x.height(0, pixel, 1), 0);
            kit.due("MOST of " + pixel, x.height(0, pixel, 2), 0);
            kit.due("HEIGHT of " + pixel, x.height(0, pixel, 3), 399);
        }
        kit.due("TURNS of 1", x.height(0, 1, 1), 1);
        kit.due("TURNS of 7", x.height(0, 7, 1), 1);
    }

    private void turnsAreTheLeastAndMostTheGreatest() {
        FringeBench x = ring();
        for (int i = 1; i < RING.length; i++) {
            kit.due("TURNS of " + RING[i], x.height(0, RING[i], 1), 175 * i / 400 - 7);
            kit.due("MOST of " + RING[i], x.height(0, RING[i], 2), 175 * i / 400);
            kit.due("HEIGHT of " + RING[i], x.height(0, RING[i], 3), 175 * i - 2800);
            kit.due("HEIGHT of " + RING[i] + ", the other way round", x.height(1, RING[i], 3), -175 * i);
        }
        kit.due("TURNS of 0", x.height(0, 0, 1), 0);
        kit.due("MOST of 0", x.height(0, 0, 2), 0);
    }

    private void theLastTwoOf5By5AreBesideOneAnother() {
        // All that does not close is round the last FOUR; 24 is a turn lower, or not.
        FringeBench x = Kit.withPictures(ZEROS + "phase 23 200;");
        kit.due("FOUR", x.four(0, 3, 3), 1);
        kit.due("COST", x.picture(0, 7), 1);
        kit.due("TURNS of 24", x.height(0, 24, 1), -1);
        kit.due("MOST of 24", x.height(0, 24, 2), 0);
        kit.due("LEAP from 19", x.differ(0, 19, 24, true), -1);
        kit.due("LEAP from 23", x.differ(0, 23, 24, true), 0);
        kit.due("SURE", x.picture(0, 12), 24);
        kit.due("FRINGES", x.fringes(0, 400), 3);
    }

    private void aHeightThatIsNotThereIsNone() {
        FringeBench x = Kit.withPictures(VORTEX + "hole 3;", "size 2 5;phase 0" + Kit.repeated(" 1", 9) + ";");
        for (int what = 0; what <= 4; what++) {
            kit.due("a hole, what " + what, x.height(0, 3, what), NO_HEIGHT);
            kit.due("without a PHASE, what " + what, x.height(1, 9, what), NO_HEIGHT);
            kit.due("pixel 4 of 4, what " + what, x.height(0, 4, what), NO_HEIGHT);
            kit.due("pixel 10 of 10, what " + what, x.height(1, 10, what), NO_HEIGHT);
            kit.due("pixel -1, what " + what, x.height(0, -1, what), NO_HEIGHT);
        }
        kit.due("the greatest", x.height(0, GREATEST, 3), NO_HEIGHT);
        kit.due("the least", x.height(0, LEAST, 3), NO_HEIGHT);
        for (int what : new int[] {-1, 5, LEAST, GREATEST}) {
            kit.due("what " + what, x.height(0, 0, what), NO_HEIGHT);
        }
        for (int picture : NO_PICTURES) {
            kit.due("picture " + picture, x.height(picture, 0, 3), NO_HEIGHT);
        }
    }

    // ---- promise 6

    private void allOfARing() {
        int[] due = {5, 5, 1, 16, 1, 0, 0, 7, 1, 8, 0, 0, 1};
        FringeBench x = ring();
        for (int what = 0; what <= 12; what++) {
            kit.due("what " + what, x.picture(0, what), due[what]);
        }
    }

    private void allOfNothing() {
        int[] due = {2, 5, 7, 0, 0, 0, 0, 0, 0, 0, NONE, NONE, 0};
        FringeBench x = Kit.withPictures("size 2 5;least 7;step 0 0 6 6 6;");
        for (int what = 0; what <= 12; what++) {
            kit.due("what " + what, x.picture(0, what), due[what]);
        }
    }

    private void allOfASmoothOne() {
        int[] due = {5, 5, 1, 25, 1, 0, 0, 0, 0, 0, NONE, NONE, 25};
        FringeBench x = Kit.withPictures(ZEROS);
        for (int what = 0; what <= 12; what++) {
            kit.due("what " + what, x.picture(0, what), due[what]);
        }
    }

    private void anotherWhatOfAPicture() {
        FringeBench x = Kit.withPictures(VORTEX, ANTI);
        for (int what : new int[] {-1, 13, LEAST, GREATEST}) {
            kit.due("what " + what, x.picture(0, what), -2);
        }
        for (int picture : NO_PICTURES) {
            kit.due("picture " + picture, x.picture(picture, 0), -2);
            kit.due("MEND of picture " + picture, x.picture(picture, 10), -2);
        }
    }

    private void mendIsTheLeastOfSeveral() {
        kit.due("any of 4", Kit.withPictures(VORTEX).picture(0, 10), 0);
        kit.due("any but a hole", Kit.withPictures("size 3 2;phase 0 0 0 100 0 300 200;hole 0;").picture(0, 10), 1);
    }

    private void mendMustMakeItLess() {
        kit.due("0 is least already", Kit.withPictures("size 2 2;phase 0 0 100 200 300;").picture(0, 10), NONE);
        kit.due("one pixel alone", Kit.withPictures("phase 4 0;").picture(0, 10), NONE);
    }

    private void mendIsTheOneThatMakesItLeast() {
        // Two that do not close, 1 and 9 to be paid: without 3, 4, 8 or 9 it is 1.
        FringeBench x = Kit.withPictures("size 5 2;phase 0 0 100;phase 3 0 100;phase 5 300 200;phase 8 300 200;"
                + "weight 3 9;weight 4 9;weight 8 9;weight 9 9;");
        kit.due("COST", x.picture(0, 7), 10);
        kit.due("MEND", x.picture(0, 10), 3);
        kit.due("ROUGH", x.picture(0, 11), 3);
        kit.due("LEAPS", x.picture(0, 8), 2);
        kit.due("SURE", x.picture(0, 12), 2);
    }

    private void roughIsTheLeastOfSeveral() {
        kit.due("0 and 1", Kit.withPictures(VORTEX).picture(0, 11), 0);
        FringeBench x = Kit.withPictures("size 5 2;phase 0 0 100;phase 3 0 100;phase 5 300 200;phase 8 300 200;");
        kit.due("0, 1, 3 and 4", x.picture(0, 11), 0);
    }

    private void roughMustBeAbove0() {
        kit.due("no LEAP", Kit.withPictures("size 2 2;phase 0 0 100 200 300;").picture(0, 11), NONE);
    }

    private void roughIsOfAllItsLeapsTogether() {
        // Twice round in a 3 by 2 frame: LEAPS from 0 to 1 and from 1 to 2, so 1 has both.
        FringeBench x = Kit.withPictures("size 3 2;phase 0 0 133 266 266 133 0;");
        kit.due("FOURS", x.picture(0, 5), 2);
        kit.due("COST", x.picture(0, 7), 2);
        kit.due("LEAPS", x.picture(0, 8), 2);
        kit.due("0 to 1", x.differ(0, 0, 1, true), -1);
        kit.due("1 to 2", x.differ(0, 1, 2, true), -1);
        kit.due("ROUGH", x.picture(0, 11), 1);
        kit.due("MEND", x.picture(0, 10), 1);
        kit.due("OUT of 0", x.out(0, 0, false), 1);
        kit.due("OUT of 1", x.out(0, 1, false), 0);
    }

    private void theLesserWeightOfBothCounts() {
        FringeBench x = Kit.withPictures(VORTEX + "weight 0 9;weight 1 9;weight 2 9;weight 3 4;",
                VORTEX + "weight 0 9;weight 1 9;weight 2 9;weight 3 9;");
        kit.due("4", x.picture(0, 7), 4);
        kit.due("9", x.picture(1, 7), 9);
    }

    private void wrongIsOfWalks() {
        FringeBench x = ring();
        int[] walked = {0, 175, 350, 525, 700, -175, 0, 0, 0, 875, -350, 0, 0, 0, 1050, -525, 0, 0, 0, 1225,
            -700, -875, -1050, -1225, 1400};
        for (int pixel : RING) {
            kit.due("WALKED of " + pixel, x.height(0, pixel, 4), walked[pixel]);
        }
        kit.due("WRONG", x.picture(0, 9), 8);
    }

    private void aWalkGoesToTheLeastFromTheLeast() {
        // 3 is beside 1 and 2: it is walked to from 1, the least.
        FringeBench x = Kit.withPictures(VORTEX, ANTI);
        kit.due("3 from 1", x.height(0, 3, 4), 200);
        kit.due("2 from 0", x.height(0, 2, 4), -100);
        kit.due("3 from 1, the other way round", x.height(1, 3, 4), -200);
    }

    private void eachPartIsWalkedForItself() {
        FringeBench x = Kit.withPictures("phase 0 399;phase 2 398;phase 8 397;");
        kit.due("0", x.height(0, 0, 4), 399);
        kit.due("2", x.height(0, 2, 4), 398);
        kit.due("8", x.height(0, 8, 4), 397);
    }

    // ---- promise 7

    private void theLastPixelOfEachSize() {
        for (int w = 2; w <= 5; w++) {
            for (int h = 2; h <= 5; h++) {
                FringeBench x = Kit.withPictures("size " + w + " " + h + ";weight " + (w * h - 1) + " 5;");
                kit.due(w + " by " + h, x.pixel(0, w * h - 1, 4), 5);
                kit.due(w + " by " + h + ", one more", x.pixel(0, w * h, 4), -2);
            }
        }
    }

    private void aPixelThatIsNotThereIsNone() {
        FringeBench x = Kit.withPictures(VORTEX, ZEROS);
        for (int what = -1; what <= 8; what++) {
            kit.due("pixel 4 of 4, what " + what, x.pixel(0, 4, what), -2);
            kit.due("pixel 25, what " + what, x.pixel(1, 25, what), -2);
            kit.due("pixel -1, what " + what, x.pixel(0, -1, what), -2);
            kit.due("the greatest, what " + what, x.pixel(0, GREATEST, what), -2);
            kit.due("the least, what " + what, x.pixel(0, LEAST, what), -2);
            for (int picture : NO_PICTURES) {
                kit.due("picture " + picture + ", what " + what, x.pixel(picture, 0, what), -2);
            }
        }
    }

    private void anotherWhatOfAPixel() {
        FringeBench x = Kit.withPictures(VORTEX);
        for (int what : new int[] {-1, 8, LEAST, GREATEST}) {
            kit.due("what " + what, x.pixel(0, 0, what), -2);
        }
    }

    // ---- promise 12

    private void plane(String text, long a, long b, long c, long d, long off) {
        FringeBench x = Kit.withPictures(text);
        long[] due = {a, b, c, d, off};
        for (int what = 0; what <= 4; what++) {
            kit.due("plane of '" + text + "', " + what, x.plane(0, 0, what), due[what]);
        }
    }

    private void noPlane(String text) {
        long none = Long.MIN_VALUE;
        plane(text, none, none, none, none, none);
    }

    private void ofFewPixelsThereIsNoPlane() {
        noPlane("phase 4 7;");
        noPlane("phase 4 7 9;");
        noPlane("phase 4 7;phase 7 9;");
    }

    private void ofARowOrAColumnThereIsNoPlane() {
        noPlane("size 5 5;phase 10 1 2 3 4 6;");
        noPlane("size 5 5;phase 2 1;phase 7 2;phase 12 3;phase 17 5;phase 22 9;");
        noPlane("size 5 5;phase 20 1 2 3;");
    }

    private void of3RoundACornerThereIsAPlane() {
        plane("size 5 5;phase 0 50 60;phase 5 70;", 50, 10, 20, 1, 0);
        plane("size 5 5;phase 19 10;phase 23 20 50;", -230, 30, 40, 1, 0);
    }

    private void aPlaneOfAll() {
        plane(ZEROS, 0, 0, 0, 62500, 0);
        plane("size 2 2;phase 0 399 399 399 399;", 4 * 399, 0, 0, 4, 0);
        plane("size 2 2;phase 0 0 399 0 399;", 0, -4, 0, 4, 0);
    }

    private void offMayBeMoreThanAnInt() {
        FringeBench x = Kit.withPictures(ZEROS + "phase 0 199;phase 24 199;");
        kit.due("OFF", x.plane(0, 0, 4), 4554115000L);
        kit.due("D", x.plane(0, 0, 3), 62500);
    }

    private void planesOfFurtherParts() {
        FringeBench x = Kit.withPictures("size 5 2;phase 0 9 9;phase 3 1 3;phase 5 9;phase 8 4;");
        kit.due("A of part 1", x.plane(0, 1, 0), -5);
        kit.due("B of part 1", x.plane(0, 1, 1), 2);
        kit.due("C of part 1", x.plane(0, 1, 2), 3);
        kit.due("D of part 1", x.plane(0, 1, 3), 1);
        kit.due("C of part 0", x.plane(0, 0, 2), 0);
        kit.due("A of part 2", x.plane(0, 2, 0), Long.MIN_VALUE);
    }

    // ---- promise 21

    private void roundMayBeMoreThan1() {
        FringeBench x = ring();
        kit.due("7", x.round(0, 0, 0, 4, 4), 7);
        kit.due("-7", x.round(1, 0, 0, 4, 4), -7);
    }

    private void roundWithOneThatIsNotThereIsNone() {
        for (int hole = 0; hole < RING.length; hole++) {
            FringeBench x = Kit.withPictures(along(RING, 175) + "hole " + RING[hole] + ";");
            kit.due("hole " + RING[hole], x.round(0, 0, 0, 4, 4), -100);
        }
        kit.due("one within is", ring().round(0, 1, 1, 2, 2), -100);
        kit.due("a part of the frame", ring().round(0, 0, 0, 4, 3), -100);
    }

    private void aFrameIsInThePicture() {
        for (int w = 2; w <= 5; w++) {
            for (int h = 2; h <= 5; h++) {
                FringeBench x = Kit.withPictures("size " + w + " " + h + ";phase 0" + Kit.repeated(" 9", w * h) + ";");
                kit.due("all", x.round(0, 0, 0, w - 1, h - 1), 0);
                kit.due("the last corner", x.round(0, w - 2, h - 2, 1, 1), 0);
                kit.due("w too large", x.round(0, 0, 0, w, h - 1), -100);
                kit.due("h too large", x.round(0, 0, 0, w - 1, h), -100);
                kit.due("x too large", x.round(0, 1, 0, w - 1, h - 1), -100);
                kit.due("y too large", x.round(0, 0, 1, w - 1, h - 1), -100);
                kit.due("x at the edge", x.round(0, w - 1, 0, 1, 1), -100);
                kit.due("y at the edge", x.round(0, 0, h - 1, 1, 1), -100);
                kit.due("x below 0", x.round(0, -1, 0, 1, 1), -100);
                kit.due("y below 0", x.round(0, 0, -1, 1, 1), -100);
            }
        }
    }

    private void aFrameIs1By1AtLeast() {
        FringeBench x = Kit.withPictures(ZEROS);
        kit.due("1 by 1", x.round(0, 2, 2, 1, 1), 0);
        kit.due("w 0", x.round(0, 2, 2, 0, 1), -100);
        kit.due("h 0", x.round(0, 2, 2, 1, 0), -100);
        kit.due("0 by 0", x.round(0, 2, 2, 0, 0), -100);
        kit.due("w -1", x.round(0, 2, 2, -1, 1), -100);
        kit.due("h -1", x.round(0, 2, 2, 1, -1), -100);
        for (int number : new int[] {LEAST, GREATEST}) {
            kit.due("x " + number, x.round(0, number, 2, 1, 1), -100);
            kit.due("y " + number, x.round(0, 2, number, 1, 1), -100);
            kit.due("w " + number, x.round(0, 2, 2, number, 1), -100);
            kit.due("h " + number, x.round(0, 2, 2, 1, number), -100);
            kit.due("all " + number, x.round(0, number, number, number, number), -100);
        }
    }

    private void roundOfNoPictureIsNone() {
        FringeBench x = Kit.withPictures(ZEROS, ZEROS);
        for (int picture : NO_PICTURES) {
            kit.due("picture " + picture, x.round(picture, 0, 0, 1, 1), -100);
        }
    }

    // ---- promise 22

    private void theEdgeIsAsFarAsTheNearestSide() {
        for (int w = 2; w <= 5; w++) {
            for (int h = 2; h <= 5; h++) {
                for (int at = 0; at < (w - 1) * (h - 1); at++) {
                    int x = at % (w - 1);
                    int y = at / (w - 1);
                    FringeBench b = Kit.withPictures("size " + w + " " + h + ";phase " + (y * w + x) + " 0 100;phase "
                            + (y * w + w + x) + " 300 200;");
                    int edge = Math.min(Math.min(x + 1, y + 1), Math.min(w - 1 - x, h - 1 - y));
                    kit.due(w + " by " + h + ": " + x + ", " + y, b.paired(0), edge);
                }
            }
        }
    }

    private void pairsOrEdgesWhichIsLess() {
        FringeBench x = Kit.withPictures("size 3 2;phase 0 0 100 0 300 200 300;",
                "size 5 2;phase 0 0 100 50 0 300 300 200 150 100 200;");
        kit.due("beside one another", x.paired(0), 1);
        kit.due("one each", x.picture(1, 5) * 10 + x.picture(1, 6), 11);
        kit.due("3 apart, each 1 from the edge", x.paired(1), 2);
        FringeBench y = Kit.withPictures("size 5 2;phase 0 0 100 50 0 300 300 200 150 100 200;");
        kit.due("asked first", y.paired(0), 2);
    }

    private void moreOfOneKindThanOfTheOther() {
        // Each pair, each way to the edge is 1 at the least: 5 and 6 make 11, 6 and 4 make 10.
        FringeBench x = Kit.withPictures("size 5 5;phase 0 20 150 320 340 340 220 130 90 280 130 40 240 360 50 240"
                + " 260 40 130 290 10 70 280 80 290 120;", "size 5 5;phase 0 250 170 300 210 90 390 150 60 230 370"
                + " 120 340 310 180 380 310 160 30 210 240 60 220 380 330 40;");
        kit.due("that are 1", x.picture(0, 5), 11);
        kit.due("that are -1", x.picture(0, 6), 5);
        kit.due("PAIRED", x.paired(0), 11);
        kit.due("the other one: 1", x.picture(1, 5), 6);
        kit.due("the other one: -1", x.picture(1, 6), 10);
        kit.due("the other one: PAIRED", x.paired(1), 10);
    }

    private void likeOnesDoNotPair() {
        FringeBench x = Kit.withPictures("size 5 2;phase 0 0 100 250 0 100 300 200 250 300 200;");
        kit.due("two of one kind", x.picture(0, 5) * 10 + x.picture(0, 6), 20);
        kit.due("each with the edge", x.paired(0), 2);
    }

    private void withoutFoursNothingIsPaired() {
        FringeBench x = Kit.withPictures(ZEROS, "");
        kit.due("all closes", x.paired(0), 0);
        kit.due("nothing is THERE", x.paired(1), 0);
        kit.due("a ring round nothing", ring().paired(0), 0);
    }

    private void allFoursArePaired() {
        String rows = "0 100 0 100 0 300 200 300 200 300 ";
        FringeBench x = Kit.withPictures("size 5 5;phase 0 " + rows + rows + "0 100 0 100 0;");
        kit.due("8 and 8", x.picture(0, 5) * 10 + x.picture(0, 6), 88);
        kit.due("PAIRED", x.paired(0), 8);
    }

    private void pairedOfNoPictureIsNone() {
        FringeBench x = Kit.withPictures(VORTEX, ANTI);
        for (int picture : NO_PICTURES) {
            kit.due("picture " + picture, x.paired(picture), NONE);
        }
    }

    // ---- promise 23

    private void aHeightIsNotAboveItself() {
        FringeBench x = ring();
        kit.due("0", x.above(0, 0), 0);
        kit.due("-1", x.above(0, -1), 1);
        kit.due("-175", x.above(0, -175), 1);
        kit.due("-176", x.above(0, -176), 2);
        kit.due("-2625", x.above(0, -2625), 15);
        kit.due("-2626", x.above(0, -2626), 16);
    }

    private void allAndNoneAreAbove() {
        FringeBench x = Kit.withPictures(along(SNAKE, 199), "");
        kit.due("the least", x.above(0, LEAST), 17);
        kit.due("the greatest", x.above(0, GREATEST), 0);
        kit.due("3183", x.above(0, 3183), 1);
        kit.due("3184", x.above(0, 3184), 0);
        kit.due("nothing is THERE", x.above(1, LEAST), 0);
    }

    private void aboveOfNoPictureIsNone() {
        FringeBench x = Kit.withPictures(VORTEX, ANTI);
        for (int picture : NO_PICTURES) {
            kit.due("picture " + picture, x.above(picture, LEAST), NONE);
        }
    }

    // ---- promise 24

    private void fringesAtTheirEdge() {
        FringeBench x = Kit.withPictures("phase 0 199 200;");
        kit.due("by 200", x.fringes(0, 200), 1);
        kit.due("by 201", x.fringes(0, 201), 0);
        kit.due("by 199", x.fringes(0, 199), 0);
        kit.due("by 100", x.fringes(0, 100), 1);
        kit.due("by 1", x.fringes(0, 1), 1);
    }

    private void fringesBelow0AreCutDown() {
        FringeBench x = Kit.withPictures("phase 0 0 399;", "phase 0 398 399;hole 0;phase 2 0;");
        kit.due("0 and -1, by 9999", x.fringes(0, 9999), 1);
        kit.due("0 and -1, by 1", x.fringes(0, 1), 1);
        kit.due("399 and 400, by 400", x.fringes(1, 400), 1);
        kit.due("399 and 400, by 401", x.fringes(1, 401), 0);
        FringeBench y = Kit.withPictures("size 5 2;phase 0 0 250 100 350 200;");
        kit.due("0 -150 -300 -450 -600, by 150", y.fringes(0, 150), 4);
        kit.due("by 300", y.fringes(0, 300), 2);
        kit.due("by 600", y.fringes(0, 600), 1);
    }

    private void fringesAreBy1To9999() {
        FringeBench x = Kit.withPictures("phase 0 0 399;", "");
        for (int s : new int[] {0, -1, 10000, LEAST, GREATEST}) {
            kit.due("by " + s, x.fringes(0, s), NONE);
        }
        kit.due("nothing is THERE", x.fringes(1, 1), 0);
        for (int picture : NO_PICTURES) {
            kit.due("picture " + picture, x.fringes(picture, 1), NONE);
        }
    }

    private void fringesOfAllBesideOneAnother() {
        FringeBench x = Kit.withPictures(along(SNAKE, 199), ZEROS);
        // In 0 100 / 300 (-100) 200 (-200) all four are unlike by 100: 0, -3, -1, -2.
        kit.due("by 199, the 16 of the way alone", x.fringes(0, 199), 16);
        kit.due("zeros", x.fringes(1, 1), 0);
        kit.due("a vortex", Kit.withPictures(VORTEX).fringes(0, 100), 4);
    }
}
