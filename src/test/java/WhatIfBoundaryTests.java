/**
 * The boundary cases of what would be if a picture was otherwise, of several pictures, and of tests
 * on them: terms 3 to 5, and promises 13 to 18, 20 and 25 to 27 of the document, each in a test of
 * its own.
 */
public final class WhatIfBoundaryTests {
    private static final int NONE = FringeBench.NONE;
    private static final int NO_HEIGHT = -1000000;
    private static final int LEAST = Integer.MIN_VALUE;
    private static final int GREATEST = Integer.MAX_VALUE;
    /** Numbers of pictures that there are not, where there are two. */
    private static final int[] NO_PICTURES = {-1, -2, 2, 3, LEAST, GREATEST};
    private static final String VORTEX = "size 2 2;phase 0 0 100 300 200;";
    private static final String ZEROS = "size 5 5;phase 0" + Kit.repeated(" 0", 25) + ";";
    /** HEIGHTS 10 x + 20 y. */
    private static final String SLOPE = "size 5 5;phase 0 0 10 20 30 40 20 30 40 50 60 40 50 60 70 80"
            + " 60 70 80 90 100 80 90 100 110 120;";
    /** Round the edge of 5 by 5, seven turns. */
    private static final String RING = "size 5 5;phase 0 0 175 350 125 300 225;phase 9 75 50;phase 14 250 275;"
            + "phase 19 25 100 325 150 375 200;";

    private final Kit kit = new Kit("WhatIfBoundaryTests");

    public static void main(String[] args) throws IllegalAccessException {
        WhatIfBoundaryTests tests = new WhatIfBoundaryTests();
        tests.kit.runEach(tests);
        tests.kit.finish();
    }

    // ---- promise 13: OUT

    private void withoutAnyPixelOfARingItCosts0() {
        FringeBench x = Kit.withPictures(RING);
        kit.due("COST", x.picture(0, 7), 7);
        for (int pixel = 0; pixel < 25; pixel++) {
            boolean edge = pixel < 5 || pixel >= 20 || pixel % 5 == 0 || pixel % 5 == 4;
            kit.due("OUT of " + pixel, x.out(0, pixel, false), edge ? 0 : NONE);
        }
        kit.due("COST stays", x.picture(0, 7), 7);
        kit.due("no HOLE came", x.pixel(0, 0, 7), 0);
    }

    private void howManyStandOtherwise() {
        FringeBench x = Kit.withPictures(RING);
        kit.due("without 0, against 1", x.out(0, 0, true), 0);
        kit.due("without 5", x.out(0, 5, true), 14);
        kit.due("without 24", x.out(0, 24, true), 7);
        kit.due("without 1", x.out(0, 1, true), 0);
    }

    private void withoutTheOnlyOneNothingIsLeft() {
        FringeBench x = Kit.withPictures("phase 4 7;");
        kit.due("COST", x.out(0, 4, false), 0);
        kit.due("others", x.out(0, 4, true), 0);
        kit.due("it stays", x.height(0, 4, 3), 7);
    }

    private void withoutOneAPartFallsApart() {
        // 399 0 1 in a row: without 0 each is alone; without 399 the others are a turn lower, both.
        FringeBench x = Kit.withPictures("phase 0 399 0 1;", "phase 1 399;phase 4 0 1;phase 7 0;");
        kit.due("the midst", x.out(0, 1, true), 0);
        kit.due("the first", x.out(0, 0, true), 0);
        kit.due("the last", x.out(0, 2, true), 0);
        kit.due("HEIGHT stays", x.height(0, 2, 3), 401);
        kit.due("the midst of another", x.out(1, 4, true), 0);
        kit.due("COST of all", x.out(1, 4, false), 0);
    }

    private void outOfOneThatIsNotThereIsNone() {
        FringeBench x = Kit.withPictures(VORTEX + "hole 2;", "size 2 2;phase 0 1 2 3;");
        for (int pixel : new int[] {2, 4, -1, 25, LEAST, GREATEST}) {
            kit.due("pixel " + pixel, x.out(0, pixel, false), NONE);
            kit.due("pixel " + pixel + ", others", x.out(0, pixel, true), NONE);
        }
        kit.due("without a PHASE", x.out(1, 3, false), NONE);
        for (int picture : NO_PICTURES) {
            kit.due("picture " + picture, x.out(picture, 0, false), NONE);
            kit.due("picture " + picture + ", others", x.out(picture, 0, true), NONE);
        }
    }

    // ---- promise 14: HEAVY

    private void weightsFrom1To9() {
        FringeBench x = Kit.withPictures(RING, VORTEX + "weight 0 9;weight 1 9;weight 2 9;weight 3 9;");
        for (int weight = 1; weight <= 9; weight++) {
            kit.due("the least of both, " + weight, x.heavy(0, 24, weight), 7);
            kit.due("among 9s, " + weight, x.heavy(1, 0, weight), weight);
        }
        kit.due("COST stays", x.picture(1, 7), 9);
        kit.due("WEIGHT stays", x.pixel(1, 0, 4), 9);
    }

    private void anotherWeightIsNone() {
        FringeBench x = Kit.withPictures(VORTEX);
        for (int weight : new int[] {0, 10, -1, LEAST, GREATEST}) {
            kit.due("weight " + weight, x.heavy(0, 0, weight), NONE);
        }
    }

    private void heavyOfOneThatIsNotInThePictureIsNone() {
        FringeBench x = Kit.withPictures(VORTEX, "");
        for (int pixel : new int[] {4, 24, 25, -1, LEAST, GREATEST}) {
            kit.due("pixel " + pixel, x.heavy(0, pixel, 1), NONE);
        }
        for (int picture : NO_PICTURES) {
            kit.due("picture " + picture, x.heavy(picture, 0, 1), NONE);
        }
    }

    private void heavyOfAHoleIsCostAsItIs() {
        FringeBench x = Kit.withPictures("size 3 2;phase 0 0 100 0 300 200 0;hole 2;weight 2 5;", "");
        kit.due("a hole", x.heavy(0, 2, 9), 1);
        kit.due("nothing is THERE", x.heavy(1, 0, 9), 0);
    }

    // ---- promise 15: STITCH

    private void everyShiftFromMinus4To4() {
        FringeBench x = Kit.withPictures(ZEROS, ZEROS);
        for (int dx = -4; dx <= 4; dx++) {
            for (int dy = -4; dy <= 4; dy++) {
                String shift = dx + ", " + dy;
                kit.due("COMMON " + shift, x.stitch(0, 1, dx, dy, 0), (5 - Math.abs(dx)) * (5 - Math.abs(dy)));
                kit.due("SUM " + shift, x.stitch(0, 1, dx, dy, 1), 0);
                kit.due("APART " + shift, x.stitch(0, 1, dx, dy, 2), 0);
            }
        }
    }

    private void otherShiftsAreNone() {
        FringeBench x = Kit.withPictures(ZEROS, ZEROS);
        for (int shift : new int[] {-5, 5, LEAST, GREATEST}) {
            kit.due("dx " + shift, x.stitch(0, 1, shift, 0, 0), NO_HEIGHT);
            kit.due("dy " + shift, x.stitch(0, 1, 0, shift, 0), NO_HEIGHT);
            kit.due("both " + shift, x.stitch(0, 1, shift, shift, 2), NO_HEIGHT);
        }
    }

    private void cornersOnCorners() {
        FringeBench x = Kit.withPictures(SLOPE, "size 5 5;phase 0" + Kit.repeated(" 7", 25) + ";");
        kit.due("0 on 24", x.stitch(0, 1, 4, 4, 1), 113);
        kit.due("24 on 0", x.stitch(0, 1, -4, -4, 1), -7);
        kit.due("20 on 4", x.stitch(0, 1, 4, -4, 1), 33);
        kit.due("4 on 20", x.stitch(0, 1, -4, 4, 1), 73);
        kit.due("one is not APART", x.stitch(0, 1, 4, 4, 2), 0);
        kit.due("a column", x.stitch(0, 1, 4, 0, 2), 80);
    }

    private void withoutCommonOnesAllIs0() {
        FringeBench x = Kit.withPictures("size 2 2;phase 0 5;", "size 2 2;phase 3 9;");
        kit.due("COMMON", x.stitch(0, 1, 0, 0, 0), 0);
        kit.due("SUM", x.stitch(0, 1, 0, 0, 1), 0);
        kit.due("APART", x.stitch(0, 1, 0, 0, 2), 0);
        kit.due("outside", x.stitch(0, 1, 4, 4, 0), 0);
        kit.due("3 on 0", x.stitch(0, 1, -1, -1, 1), -4);
        kit.due("nothing is left of it", x.stitch(0, 1, 1, 1, 1), 0);
    }

    private void picturesOfUnlikeSizes() {
        FringeBench x = Kit.withPictures(SLOPE, "size 2 3;phase 0 0 0 0 0 0 0;");
        kit.due("all of the small one", x.stitch(0, 1, 3, 2, 0), 6);
        kit.due("its column alone", x.stitch(0, 1, 4, 2, 0), 3);
        kit.due("SUM", x.stitch(0, 1, 4, 2, 1), 80 + 100 + 120);
        kit.due("small one first", x.stitch(1, 0, -4, -2, 0), 3);
        kit.due("its SUM", x.stitch(1, 0, -4, -2, 1), -300);
        kit.due("of 5 by 5 the corner beyond", x.stitch(1, 0, -4, -4, 0), 1);
    }

    private void aStitchOfNoPictureIsNone() {
        FringeBench x = Kit.withPictures(ZEROS, ZEROS);
        for (int picture : NO_PICTURES) {
            kit.due("first " + picture, x.stitch(picture, 0, 0, 0, 0), NO_HEIGHT);
            kit.due("second " + picture, x.stitch(0, picture, 0, 0, 0), NO_HEIGHT);
        }
        for (int what : new int[] {-1, 3, LEAST, GREATEST}) {
            kit.due("what " + what, x.stitch(0, 1, 0, 0, what), NO_HEIGHT);
        }
        kit.due("with itself", x.stitch(1, 1, 0, 0, 0), 25);
    }

    // ---- promise 16: BEST

    private void best(String one, String two, int dx, int dy) {
        FringeBench x = Kit.withPictures(one, two);
        kit.due("dx of '" + one + "' '" + two + "'", x.best(0, 1, false), dx);
        kit.due("dy of '" + one + "' '" + two + "'", x.best(0, 1, true), dy);
    }

    private void bestNeeds2CommonOnes() {
        best("size 2 2;phase 0 5;", "size 2 2;phase 0 5;", -9, -9);
        best("size 2 2;phase 0 5 6;", "size 2 2;phase 0 5;", -9, -9);
        best("size 2 2;phase 0 5 6;", "size 2 2;phase 0 5 6;", 0, 0);
        best("size 2 2;", "size 2 2;phase 0 5 6 7 8;", -9, -9);
    }

    private void bestIsFromMinus2To2() {
        String two = "size 2 2;phase 0 0 10;";
        best("size 5 5;phase 12 0 10;", two, 2, 2);
        best("size 5 5;phase 13 0 10;", two, -9, -9);
        best("size 5 5;phase 17 0 10;", two, -9, -9);
        best(two, "size 5 5;phase 12 0 10;", -2, -2);
        best(two, "size 5 5;phase 13 0 10;", -9, -9);
        best(two, "size 5 5;phase 17 0 10;", -9, -9);
    }

    private void leastApartIsBeforeMostCommon() {
        best("size 5 2;phase 0 0 10 30;", "size 5 2;phase 0 0 20 50;", 1, 0);
    }

    private void leastApartMayBeAbove0() {
        // 25 APART at -1, 30 at 0, 5 at 1.
        best("size 3 2;phase 0 0 10 30;", "size 3 2;phase 0 0 25 60;", 1, 0);
        // 20 APART at 0, 10 at 1, 15 at 2: neither the first nor the last.
        best("size 5 2;phase 0 0 0 10 15;", "size 2 2;phase 0 0 20;", 1, 0);
    }

    private void mostCommonIsBeforeLeastDy() {
        // Rows of zeros: two on two above, three on three below.
        best("size 4 2;phase 0 0 0;phase 4 0 0 0;", "size 4 2;phase 0 0 0 0;", 0, 1);
    }

    private void leastDyIsBeforeLeastDx() {
        best("phase 1 0 10 0 10;", "size 2 2;phase 0 0 10;", 1, 0);
    }

    private void leastDxIsTheLast() {
        best("size 5 2;phase 0 0 0 0 0 0;", "size 2 2;phase 0 0 0;", 0, 0);
        best("size 2 2;phase 0 0 0;", "size 5 2;phase 0 0 0 0 0 0;", -2, 0);
        best(ZEROS, "size 2 2;phase 0 0 0 0 0;", 0, 0);
        best("size 2 2;phase 0 0 0 0 0;", ZEROS, -2, -2);
    }

    private void bestOfNoPictureIsNone() {
        FringeBench x = Kit.withPictures(ZEROS, ZEROS);
        for (int picture : NO_PICTURES) {
            kit.due("first " + picture, x.best(picture, 0, false), -9);
            kit.due("second " + picture, x.best(0, picture, true), -9);
        }
        kit.due("with itself", x.best(1, 1, true), 0);
    }

    // ---- promise 17: FLATS

    private void theMidstCountsTwice() {
        FringeBench x = Kit.withPictures("phase 0 1 2 4;", "phase 0 10 20 40;", "phase 0 100 120 140;");
        kit.due("A", x.flat(0, 1, 2, 0, 1, 0), 4 + 40 - 240);
        kit.due("B", x.flat(0, 1, 2, 0, 1, 1), 4 + 240 - 40);
        kit.due("C", x.flat(0, 1, 2, 0, 1, 2), 40 + 240 - 4);
        kit.due("A at 0", x.flat(0, 1, 2, 0, 0, 0), 5 + 50 - 240);
        kit.due("A at 2", x.flat(0, 1, 2, 0, 2, 0), 5 + 50 - 240);
    }

    private void flatsOutsideOfTheRowAreNone() {
        for (int w = 2; w <= 5; w++) {
            FringeBench b = Kit.withPictures("size " + w + " 5;phase 0" + Kit.repeated(" 7", 5 * w) + ";");
            for (int y = -1; y <= 6; y++) {
                for (int x = -1; x <= 6; x++) {
                    boolean inside = x >= 0 && x < w && y >= 0 && y < 5;
                    kit.due(w + " wide, " + x + ", " + y, b.flat(0, 0, 0, y, x, 0), inside ? 14 : NO_HEIGHT);
                }
            }
            for (int number : new int[] {LEAST, GREATEST}) {
                kit.due("x " + number, b.flat(0, 0, 0, 0, number, 0), NO_HEIGHT);
                kit.due("y " + number, b.flat(0, 0, 0, number, 0, 0), NO_HEIGHT);
            }
        }
    }

    private void flatsOfUnlikeWAreNone() {
        FringeBench x = Kit.withPictures("size 2 2;phase 0 1 1;", "size 3 2;phase 0 1 1 1;", "size 2 3;phase 0 1 1;");
        kit.due("the second", x.flat(0, 1, 2, 0, 0, 0), NO_HEIGHT);
        kit.due("the third", x.flat(0, 2, 1, 0, 0, 0), NO_HEIGHT);
        kit.due("the first", x.flat(1, 0, 2, 0, 0, 0), NO_HEIGHT);
        kit.due("unlike H are fine", x.flat(0, 0, 2, 0, 0, 0), 2);
    }

    private void flatsOfUnlikeHGoAsFarAsTheLeast() {
        FringeBench x = Kit.withPictures("size 2 2;phase 0 1 1 1 1;", "size 2 3;phase 0 1 1 1 1 1 1;");
        kit.due("row 1", x.flat(0, 1, 1, 1, 0, 0), 2);
        kit.due("row 2, first", x.flat(0, 1, 1, 2, 0, 0), NO_HEIGHT);
        kit.due("row 2, second", x.flat(1, 0, 1, 2, 0, 0), NO_HEIGHT);
        kit.due("row 2, third", x.flat(1, 1, 0, 2, 0, 0), NO_HEIGHT);
        kit.due("row 2 where it is", x.flat(1, 1, 1, 2, 0, 0), 2);
    }

    private void flatsNeedBothSides() {
        FringeBench x = Kit.withPictures("phase 0 1 1 1;", "phase 0 1 1 1;hole 2;");
        kit.due("x 0", x.flat(0, 0, 1, 0, 0, 0), NO_HEIGHT);
        kit.due("x 2", x.flat(0, 1, 0, 0, 2, 0), NO_HEIGHT);
        kit.due("x 2 of the first", x.flat(1, 0, 0, 0, 2, 0), NO_HEIGHT);
        kit.due("x 1", x.flat(0, 0, 1, 0, 1, 0), 2);
        kit.due("row 1", x.flat(0, 0, 0, 1, 1, 0), NO_HEIGHT);
    }

    private void anotherWhichOrNoPictureIsNone() {
        FringeBench x = Kit.withPictures(ZEROS, ZEROS);
        for (int which : new int[] {-1, 3, LEAST, GREATEST}) {
            kit.due("which " + which, x.flat(0, 0, 1, 0, 0, which), NO_HEIGHT);
        }
        for (int picture : NO_PICTURES) {
            kit.due("first " + picture, x.flat(picture, 0, 1, 0, 0, 0), NO_HEIGHT);
            kit.due("second " + picture, x.flat(0, picture, 1, 0, 0, 0), NO_HEIGHT);
            kit.due("third " + picture, x.flat(0, 1, picture, 0, 0, 0), NO_HEIGHT);
        }
    }

    // ---- a smaller picture in the place of a greater one

    private void nothingIsLeftOfAGreaterPicture() {
        FringeBench x = Kit.withPictures(ZEROS + "weight 24 9;");
        kit.due("all are asked for", x.picture(0, 12) + x.solid(0, 9) + x.out(0, 24, false), 26);
        Kit.retell(x, 0, 0, "size 2 2;phase 0 0 100 300 200;");
        kit.due("THERE", x.picture(0, 3), 4);
        kit.due("SURE", x.picture(0, 12), 1);
        kit.due("COST", x.picture(0, 7), 1);
        kit.due("a pixel beyond", x.height(0, 4, 3), NO_HEIGHT);
        kit.due("its OUT", x.out(0, 24, false), NONE);
        kit.due("FLATS beyond", x.flat(0, 0, 0, 2, 0, 0), NO_HEIGHT);
        kit.due("ROUND beyond", x.round(0, 0, 0, 2, 2), -100);
        kit.due("COMMON", x.stitch(0, 0, 0, 0, 0), 4);
        kit.due("SOLID", x.solid(0, 1) * 10 + x.solid(0, 9), 10);
        kit.due("ABOVE", x.above(0, LEAST), 4);
    }

    // ---- promise 18: DRAWN

    /** By longs: the PHASES of all together, of so many that are THERE. */
    private static int drawnSum(int[] phases, int seed, int k) {
        int[] after = phases.clone();
        long x = seed & 0xffffffffL;
        for (int i = 0; i < k; i++) {
            x = (x * 1103515245L + 12345L) & 0xffffffffL;
            int at = (int) ((x >> 16) % after.length);
            x = (x * 1103515245L + 12345L) & 0xffffffffL;
            after[at] = (int) ((after[at] + (x >> 16) % 400) % 400);
        }
        int sum = 0;
        for (int phase : after) {
            sum += phase;
        }
        return sum;
    }

    private void aDrawnPhaseGoesRoundAt400() {
        // By seed 0 the one that is THERE has 236 more: (-740551042 >>> 16) is 54236.
        int[][] dues = {{0, 236}, {163, 399}, {164, 0}, {165, 1}, {399, 235}};
        for (int[] due : dues) {
            FringeBench x = Kit.withPictures("phase 8 " + due[0] + ";");
            kit.due("from " + due[0], x.drawn(0, 0, 1, 2), due[1]);
            kit.due("it stays " + due[0], x.pixel(0, 8, 6), due[0]);
        }
    }

    private void theSeedMayBeAnyInt() {
        FringeBench x = Kit.withPictures("phase 0 0 50 100 150 200 250 300 350 399;hole 1 4;");
        int[] phases = {0, 100, 150, 250, 300, 350, 399};
        for (int seed : new int[] {0, 1, -1, LEAST, GREATEST, 12345, 1103515245, -740551042}) {
            for (int k = 1; k <= 20; k++) {
                kit.due("seed " + seed + ", " + k, x.drawn(0, seed, k, 2), drawnSum(phases, seed, k));
            }
        }
    }

    private void all25MayBeDrawn() {
        FringeBench x = Kit.withPictures(SLOPE);
        int[] phases = new int[25];
        for (int pixel = 0; pixel < 25; pixel++) {
            phases[pixel] = pixel % 5 * 10 + pixel / 5 * 20;
        }
        for (int seed = 0; seed < 20; seed++) {
            kit.due("seed " + seed, x.drawn(0, seed, 20, 2), drawnSum(phases, seed, 20));
        }
    }

    private void aHoleIsNotDrawn() {
        FringeBench x = Kit.withPictures("phase 0 100 7;hole 0;");
        kit.due("its PHASE does not count", x.drawn(0, 0, 1, 2), 243);
    }

    private void drawnIs1To20Times() {
        FringeBench x = Kit.withPictures(VORTEX);
        for (int k : new int[] {0, 21, -1, LEAST, GREATEST}) {
            kit.due("k " + k, x.drawn(0, 0, k, 0), NONE);
        }
        kit.due("k 1", x.drawn(0, 0, 1, 2), drawnSum(new int[] {0, 100, 300, 200}, 0, 1));
        kit.due("k 20", x.drawn(0, 0, 20, 2), drawnSum(new int[] {0, 100, 300, 200}, 0, 20));
    }

    private void drawnWhereNoneIsThereIsNone() {
        FringeBench x = Kit.withPictures("", "phase 0 1;hole 0;");
        for (int what = 0; what <= 2; what++) {
            kit.due("no PHASE, what " + what, x.drawn(0, 0, 1, what), NONE);
            kit.due("a HOLE, what " + what, x.drawn(1, 0, 1, what), NONE);
        }
    }

    private void anotherWhatOrPictureIsNotDrawn() {
        FringeBench x = Kit.withPictures(VORTEX, VORTEX);
        for (int what : new int[] {-1, 3, LEAST, GREATEST}) {
            kit.due("what " + what, x.drawn(0, 0, 1, what), NONE);
        }
        for (int picture : NO_PICTURES) {
            kit.due("picture " + picture, x.drawn(picture, 0, 1, 0), NONE);
        }
    }

    private void whatIsDrawnDoesNotStay() {
        FringeBench x = Kit.withPictures(VORTEX);
        int cost = x.drawn(0, 5, 20, 0);
        kit.due("the same once more", x.drawn(0, 5, 20, 0), cost);
        kit.due("FOURS", Math.max(x.drawn(0, 5, 20, 1), 1), 1);
        kit.due("COST", x.picture(0, 7), 1);
        kit.due("PHASE", x.pixel(0, 2, 6), 300);
    }

    // ---- promise 20: which LIMIT fails

    private void limitHoldsUpTo(String picture, String word, int number) {
        FringeBench x = Kit.withPictures(picture);
        Kit.tell(x, 1, word + " " + number + ";");
        kit.due(word + " " + number + " holds", x.fails(0, 0, false), NONE);
        kit.due(word + " " + number + ", many", x.fails(0, 0, true), 0);
        if (number > 0) {
            Kit.retell(x, 1, 0, word + " " + (number - 1) + ";");
            kit.due(word + " " + (number - 1) + " does not", x.fails(0, 0, false), 0);
            kit.due(word + " " + (number - 1) + ", many", x.fails(0, 0, true), 1);
        }
    }

    private void aLimitHoldsAtItsNumber() {
        limitHoldsUpTo(RING, "cost", 7);
        limitHoldsUpTo(RING, "lost", 9);
        limitHoldsUpTo(RING, "parts", 1);
        limitHoldsUpTo(RING, "fours", 0);
        limitHoldsUpTo(RING, "high", 2625);
        limitHoldsUpTo(RING, "wrong", 8);
        limitHoldsUpTo("size 3 2;phase 0 0 100 0 300 200 300;", "fours", 2);
        limitHoldsUpTo(VORTEX, "fours", 1);
        limitHoldsUpTo("size 2 2;phase 0 0 300 100 200;", "fours", 1);
    }

    private void withoutPartsAllIs0ButLost() {
        for (String word : new String[] {"cost", "parts", "fours", "high", "wrong"}) {
            limitHoldsUpTo("", word, 0);
        }
        limitHoldsUpTo("", "lost", 9);
        limitHoldsUpTo("size 5 5;", "lost", 25);
    }

    private void lostAreHolesAndOnesWithoutAPhase() {
        limitHoldsUpTo("size 2 2;phase 0 1 2 3;hole 1;", "lost", 2);
        limitHoldsUpTo("size 2 2;phase 0 1 2 3 4;", "lost", 0);
    }

    private void theGreatestHighOfAllPartsCounts() {
        limitHoldsUpTo("phase 0 0 5;phase 6 0 9;", "high", 9);
        limitHoldsUpTo("phase 0 0 9;phase 6 0 5;", "high", 9);
    }

    private void theFirstThatFails() {
        FringeBench x = Kit.withPictures("size 5 5;");
        Kit.tell(x, 1, "lost 25;lost 9999;lost 24;cost 0;lost 0;");
        kit.due("first", x.fails(0, 0, false), 2);
        kit.due("many", x.fails(0, 0, true), 2);
        Kit.tell(x, 1, "lost 0;lost 1;lost 2;lost 3;lost 4;lost 5;lost 6;lost 7;");
        kit.due("all 8: first", x.fails(0, 1, false), 0);
        kit.due("all 8: many", x.fails(0, 1, true), 8);
        Kit.retell(x, 1, 1, "high 0;high 0;high 0;high 0;high 0;high 0;high 0;lost 7;");
        kit.due("the 8th", x.fails(0, 1, false), 7);
    }

    private void aTestWithoutLimitsHolds() {
        FringeBench x = Kit.withPictures(VORTEX);
        Kit.tell(x, 1, "");
        kit.due("first", x.fails(0, 0, false), NONE);
        kit.due("many", x.fails(0, 0, true), 0);
    }

    private void noPictureOrNoTestFailsNothing() {
        FringeBench x = Kit.withPictures(VORTEX, VORTEX);
        Kit.tell(x, 1, "cost 0;");
        for (int number : NO_PICTURES) {
            kit.due("picture " + number, x.fails(number, 0, false), NONE);
            kit.due("picture " + number + ", many", x.fails(number, 0, true), NONE);
            kit.due("test " + number, x.fails(0, number, false), NONE);
            kit.due("test " + number + ", many", x.fails(0, number, true), NONE);
        }
        kit.due("test 1", x.fails(0, 1, true), NONE);
        kit.due("test 0", x.fails(1, 0, true), 1);
    }

    // ---- promise 25: TOUGH

    private void toughMayBe1() {
        FringeBench x = Kit.withPictures("size 2 2;phase 0 0 199 0 0;", "size 2 2;phase 0 0 200 0 0;");
        kit.due("199", x.tough(0, 1), 1);
        kit.due("200", x.tough(1, 1), 1);
        kit.due("COST of 200", x.picture(1, 7), 1);
    }

    private void toughMayBe399() {
        // Only at 200 it does not close: from 201 it is 399 on, over 400.
        FringeBench x = Kit.withPictures("size 2 2;phase 0 0 201 0 0;", "size 2 2;phase 0 0 202 0 0;");
        kit.due("201", x.tough(0, 1), 399);
        kit.due("202", x.tough(1, 1), 398);
        kit.due("PHASE stays", x.pixel(0, 1, 6), 201);
    }

    private void toughGoesOverTheTurn() {
        // It does not close at 300, at 0, at 399 alone.
        FringeBench x = Kit.withPictures("size 2 2;phase 0 100 399 100 100;", "size 2 2;phase 0 200 399 200 200;",
                "size 2 2;phase 0 199 0 199 199;");
        kit.due("from 399 to 300", x.tough(0, 1), 301);
        kit.due("from 399 to 0", x.tough(1, 1), 1);
        kit.due("from 0 to 399", x.tough(2, 1), 399);
    }

    private void toughIsByThoseOnEachSide() {
        // Each time only one DIFFERENCE goes over: to the one above, left, right, below.
        kit.due("above", Kit.withPictures("size 2 2;phase 0 0 0 100 199;").tough(0, 3), 1);
        kit.due("left", Kit.withPictures("size 2 2;phase 0 0 100 0 199;").tough(0, 3), 1);
        kit.due("right", Kit.withPictures("size 2 2;phase 0 200 0 100 50;").tough(0, 0), 1);
        kit.due("below", Kit.withPictures("size 2 2;phase 0 200 100 0 50;").tough(0, 0), 1);
    }

    private void toughByNoneIsNone() {
        FringeBench x = Kit.withPictures("phase 4 7;", "size 2 2;phase 0 1 2 3;");
        kit.due("one alone", x.tough(0, 4), NONE);
        for (int pixel = 0; pixel < 3; pixel++) {
            kit.due("a chain, " + pixel, x.tough(1, pixel), NONE);
        }
    }

    private void toughOfOneThatIsNotThereIsNone() {
        FringeBench x = Kit.withPictures("size 2 2;phase 0 0 199 0 0;hole 2;", VORTEX);
        kit.due("a hole", x.tough(0, 2), NONE);
        for (int pixel : new int[] {4, -1, 25, LEAST, GREATEST}) {
            kit.due("pixel " + pixel, x.tough(1, pixel), NONE);
        }
        for (int picture : NO_PICTURES) {
            kit.due("picture " + picture, x.tough(picture, 0), NONE);
        }
    }

    // ---- promise 26: DIM

    private void dimIsBy1To198() {
        FringeBench x = Kit.withPictures("least 9;step 0 0 99 1 0;step 1 0 99 0 0;");
        kit.due("1", x.dim(0, 1, 0), 2);
        kit.due("2", x.dim(0, 2, 0), 1);
        kit.due("198", x.dim(0, 198, 0), 1);
        kit.due("PARTS", x.dim(0, 198, 1), 1);
        kit.due("COST", x.dim(0, 198, 2), 0);
        kit.due("LEAST stays", x.picture(0, 2), 9);
        for (int least : new int[] {0, 199, -1, LEAST, GREATEST}) {
            kit.due("by " + least, x.dim(0, least, 0), NONE);
        }
    }

    private void dimTakesContrastAtItsNumber() {
        FringeBench x = Kit.withPictures("step 0 0 10 20 30;");
        kit.due("20", x.dim(0, 20, 0), 2);
        kit.due("21", x.dim(0, 21, 0), 1);
        kit.due("30", x.dim(0, 30, 0), 1);
        kit.due("31", x.dim(0, 31, 0), 0);
        kit.due("31, PARTS", x.dim(0, 31, 1), 0);
        kit.due("31, COST", x.dim(0, 31, 2), 0);
    }

    private void dimLeavesToldOnesAndHoles() {
        FringeBench x = Kit.withPictures("phase 0 1 2;hole 1;step 0 2 99;hole 2;");
        kit.due("198", x.dim(0, 198, 0), 1);
        kit.due("1", x.dim(0, 1, 0), 1);
    }

    private void anotherWhatOrPictureIsNotDim() {
        FringeBench x = Kit.withPictures(VORTEX, VORTEX);
        for (int what : new int[] {-1, 3, LEAST, GREATEST}) {
            kit.due("what " + what, x.dim(0, 1, what), NONE);
        }
        for (int picture : NO_PICTURES) {
            kit.due("picture " + picture, x.dim(picture, 1, 0), NONE);
        }
    }

    // ---- promise 27: SOLID

    private void solidIsBy1To9() {
        FringeBench x = Kit.withPictures("phase 0 0 0 0;weight 0 9;weight 1 8;weight 2 9;");
        kit.due("1", x.solid(0, 1), 1);
        kit.due("8", x.solid(0, 8), 1);
        kit.due("9", x.solid(0, 9), 2);
        kit.due("PARTS stay", x.picture(0, 4), 1);
        for (int w : new int[] {0, 10, -1, LEAST, GREATEST}) {
            kit.due("by " + w, x.solid(0, w), NONE);
        }
    }

    private void solidOfNothingIs0() {
        FringeBench x = Kit.withPictures("", "phase 0 0 0 0;weight 3 9;");
        kit.due("nothing is THERE", x.solid(0, 1), 0);
        kit.due("all are lighter", x.solid(1, 2), 0);
        kit.due("the heavy one is not THERE", x.solid(1, 9), 0);
    }

    private void solidOfAll25() {
        FringeBench x = Kit.withPictures(ZEROS + "weight 23 2;weight 19 2;weight 0 2;weight 24 2;");
        kit.due("1", x.solid(0, 1), 1);
        kit.due("2", x.solid(0, 2), 2);
        kit.due("3", x.solid(0, 3), 0);
    }

    private void solidOfNoPictureIsNone() {
        FringeBench x = Kit.withPictures(VORTEX, VORTEX);
        for (int picture : NO_PICTURES) {
            kit.due("picture " + picture, x.solid(picture, 1), NONE);
        }
    }
}
