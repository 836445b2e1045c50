/**
 * The boundary cases of the tape, of the texts and of images: term 1 and promises 1 to 5, 19, 28 to
 * 30 of the document, each in a test of its own.
 */
public final class TextBoundaryTests {
    private static final int NONE = FringeBench.NONE;
    private static final int LEAST = Integer.MIN_VALUE;
    private static final int GREATEST = Integer.MAX_VALUE;
    private static final int BLANKS = 0x20202020;
    private static final String VORTEX = "size 2 2;phase 0 0 100 300 200;";
    private static final String[] TEST_WORDS = {"cost", "lost", "parts", "fours", "high", "wrong"};

    private final Kit kit = new Kit("TextBoundaryTests");

    public static void main(String[] args) throws IllegalAccessException {
        TextBoundaryTests tests = new TextBoundaryTests();
        tests.kit.runEach(tests);
        tests.kit.finish();
    }

    private static int feedBlanks(FringeBench x) {
        return x.feed(BLANKS, BLANKS, BLANKS, BLANKS, BLANKS);
    }

    private static FringeBench withTape(int length) {
        FringeBench x = new FringeBench();
        for (int have = 0; have < length; have += 20) {
            feedBlanks(x);
        }
        x.end(length);
        return x;
    }

    private static FringeBench full() {
        FringeBench x = Kit.withPictures("size 2 2;", "size 3 2;", "size 4 2;");
        Kit.tell(x, 1, "cost 1;");
        Kit.tell(x, 1, "lost 2;high 3;");
        return x;
    }

    // ---- promise 1: no PICTURES, TESTS; no images

    private void aNewObjectHasNoPictures() {
        FringeBench x = new FringeBench();
        kit.due("count", x.count(0), 0);
        for (int what = 0; what <= 12; what++) {
            kit.due("picture " + what, x.picture(0, what), -2);
        }
        kit.due("pixel", x.pixel(0, 0, 0), -2);
        kit.due("in the place of 0", x.text(0, 0), -2);
    }

    private void aNewObjectHasNoTests() {
        FringeBench x = Kit.withPictures("");
        kit.due("count", x.count(1), 0);
        kit.due("limits", x.test(0, NONE, 0), NONE);
        kit.due("fails", x.fails(0, 0, true), NONE);
        kit.due("in the place of 0", x.text(1, 0), -2);
    }

    private void aNewObjectHasNoImages() {
        FringeBench x = Kit.withPictures("");
        for (int k = 0; k <= 2; k++) {
            kit.due("again " + k, x.again(k), false);
        }
        kit.due("all is as it was", x.count(0), 1);
    }

    private void aNewObjectHasAnEmptyTapeAndNoFault() {
        FringeBench x = new FringeBench();
        kit.due("end 0", x.end(0), 0);
        kit.due("end 1", x.end(1), NONE);
        kit.due("fault", x.fault(0), 0);
        kit.due("place", x.fault(1), NONE);
        kit.due("feed", feedBlanks(x), 20);
    }

    private void twoObjectsAreTwo() {
        FringeBench x = new FringeBench();
        FringeBench y = new FringeBench();
        Kit.tell(x, 0, VORTEX);
        feedBlanks(x);
        x.image(0);
        kit.due("pictures", y.count(0), 0);
        kit.due("tape", y.end(1), NONE);
        kit.due("image", y.again(0), false);
    }

    // ---- promise 2: NONE, and nothing comes, if there would be more than 600

    private void theTapeTakes600Bytes() {
        FringeBench x = new FringeBench();
        for (int i = 1; i <= 30; i++) {
            kit.due("feed " + i, feedBlanks(x), 20 * i);
        }
        kit.due("end", x.end(600), 600);
    }

    private void aFullTapeTakesNothing() {
        FringeBench x = withTape(600);
        kit.due("feed", x.feed(0, 0, 0, 0, 0), NONE);
        kit.due("601", x.end(601), NONE);
        kit.due("the blanks are still a text", x.text(0, NONE), 0);
    }

    private void aFeedAt580IsTheLast() {
        kit.due("feed", feedBlanks(withTape(580)), 600);
    }

    private void aFeedAt581BringsNothing() {
        FringeBench x = withTape(581);
        kit.due("feed", x.feed(0, 0, 0, 0, 0), NONE);
        kit.due("582", x.end(582), NONE);
        kit.due("581", x.end(581), 581);
        kit.due("the blanks are still a text", x.text(0, NONE), 0);
    }

    private void aRefusedFeedLeavesTheFault() {
        FringeBench x = new FringeBench();
        Kit.tell(x, 0, "  x");
        for (int i = 0; i < 31; i++) {
            feedBlanks(x);
        }
        kit.due("fault", x.fault(0), 1);
        kit.due("place", x.fault(1), 2);
    }

    private void aTextMakesRoomFor600More() {
        FringeBench x = withTape(600);
        x.text(0, NONE);
        for (int i = 1; i <= 30; i++) {
            kit.due("feed " + i, feedBlanks(x), 20 * i);
        }
    }

    private void ofEachNumberTheHighestByteComesFirst() {
        FringeBench x = new FringeBench();
        x.feed(0x6c656173, 0x74203132, 0x333b2020, 0x7768696c, 0x65202020);
        x.end(9);
        x.text(0, NONE);
        kit.due("cut at 9", x.fault(1), 9);
        x.feed(0x6c656173, 0x74203132, 0x333b2020, 0x7768696c, 0x65202020);
        kit.due("a word of the fourth number", x.text(0, NONE), NONE);
        kit.due("its place", x.fault(1), 12);
        x.feed(0x6c656173, 0x74203132, 0x333b2020, BLANKS, BLANKS);
        kit.due("text", x.text(0, NONE), 0);
        kit.due("LEAST", x.picture(0, 2), 123);
    }

    private void bytesAreThoseOfNegativeNumbersToo() {
        FringeBench x = new FringeBench();
        x.feed(BLANKS, BLANKS, BLANKS, BLANKS, LEAST);
        kit.due("128 behind 16 blanks", x.text(0, NONE), NONE);
        kit.due("place", x.fault(1), 16);
        x.feed(BLANKS, BLANKS, BLANKS, BLANKS, 0x202020ff);
        kit.due("255 behind 19 blanks", x.text(0, NONE), NONE);
        kit.due("its place", x.fault(1), 19);
    }

    // ---- promise 3: NONE if it has not so many, or n is below 0

    private void endKeepsAll() {
        FringeBench x = withTape(20);
        kit.due("end", x.end(20), 20);
        kit.due("once more", x.end(20), 20);
    }

    private void endKeepsNothing() {
        FringeBench x = new FringeBench();
        Kit.put(x, "%");
        kit.due("end", x.end(0), 0);
        kit.due("nothing is left", x.end(1), NONE);
        kit.due("an empty text", x.text(0, NONE), 0);
    }

    private void endOfMoreThanItHasIsRefused() {
        FringeBench x = withTape(20);
        kit.due("21", x.end(21), NONE);
        kit.due("the greatest", x.end(GREATEST), NONE);
        kit.due("20 are still there", x.end(20), 20);
    }

    private void endBelow0IsRefused() {
        FringeBench x = withTape(20);
        kit.due("-1", x.end(-1), NONE);
        kit.due("the least", x.end(LEAST), NONE);
        kit.due("20 are still there", x.end(20), 20);
    }

    private void whatIsCutOffIsGone() {
        FringeBench x = new FringeBench();
        Kit.put(x, "size 2 2;%");
        kit.due("9", x.end(9), 9);
        kit.due("10", x.end(10), NONE);
        kit.due("further bytes come behind the 9", feedBlanks(x), 29);
        kit.due("text", x.text(0, NONE), 0);
        kit.due("W", x.picture(0, 0), 2);
    }

    // ---- promise 4

    private void aFurtherOneHasTheNextNumber() {
        FringeBench x = new FringeBench();
        for (int i = 0; i < 3; i++) {
            kit.due("picture", Kit.tell(x, 0, ""), i);
        }
        for (int i = 0; i < 2; i++) {
            kit.due("test", Kit.tell(x, 1, ""), i);
        }
    }

    private void aFourthPictureIsRefused() {
        FringeBench x = full();
        Kit.tell(x, 0, "%");
        kit.due("a text", Kit.tell(x, 0, VORTEX), -2);
        kit.due("count", x.count(0), 3);
        kit.due("the last one stays", x.picture(2, 0), 4);
        kit.due("the tape is empty", x.end(1), NONE);
        kit.due("FAULT", x.fault(0), 0);
        kit.due("place", x.fault(1), NONE);
    }

    private void aThirdTestIsRefused() {
        FringeBench x = full();
        Kit.tell(x, 1, "%");
        kit.due("a text", Kit.tell(x, 1, "cost 1;"), -2);
        kit.due("count", x.count(1), 2);
        kit.due("the last one stays", x.test(1, NONE, 0), 2);
        kit.due("the tape is empty", x.end(1), NONE);
        kit.due("FAULT", x.fault(0), 0);
        kit.due("place", x.fault(1), NONE);
    }

    private void inThePlaceOfEachThereIs() {
        FringeBench x = full();
        for (int i = 0; i < 3; i++) {
            kit.due("picture", Kit.retell(x, 0, i, "size 5 " + (i + 2) + ";"), i);
            kit.due("H", x.picture(i, 1), i + 2);
        }
        for (int i = 0; i < 2; i++) {
            kit.due("test", Kit.retell(x, 1, i, "wrong " + i + ";"), i);
            kit.due("number", x.test(i, 0, 1), i);
            kit.due("nothing is left of the earlier one", x.test(i, NONE, 0), 1);
        }
        kit.due("no more pictures", x.count(0), 3);
        kit.due("no more tests", x.count(1), 2);
    }

    private void inThePlaceOfNoneIsRefused() {
        FringeBench x = Kit.withPictures("", "%", "size 2 2;");
        Kit.tell(x, 1, "");
        for (int at : new int[] {2, 3, -2, LEAST, GREATEST}) {
            Kit.retell(x, 0, NONE, "%");
            kit.due("picture " + at, Kit.retell(x, 0, at, "%"), -2);
            kit.due("picture " + at + ": FAULT", x.fault(0), 0);
            kit.due("picture " + at + ": place", x.fault(1), NONE);
            kit.due("picture " + at + ": tape", x.end(1), NONE);
        }
        for (int at : new int[] {1, 2, -2, LEAST, GREATEST}) {
            Kit.retell(x, 1, NONE, "%");
            kit.due("test " + at, Kit.retell(x, 1, at, "%"), -2);
            kit.due("test " + at + ": FAULT", x.fault(0), 0);
            kit.due("test " + at + ": tape", x.end(1), NONE);
        }
        kit.due("pictures", x.count(0), 2);
        kit.due("tests", x.count(1), 1);
    }

    private void inThePlaceOfAFourthIsRefused() {
        FringeBench x = full();
        kit.due("picture 3", Kit.retell(x, 0, 3, ""), -2);
        kit.due("test 2", Kit.retell(x, 1, 2, ""), -2);
    }

    private void noSuchSortIsRefused() {
        FringeBench x = new FringeBench();
        for (int sort : new int[] {-1, 2, LEAST, GREATEST}) {
            Kit.retell(x, 0, NONE, "%");
            kit.due("sort " + sort, Kit.retell(x, sort, NONE, "%"), -2);
            kit.due("sort " + sort + ": FAULT", x.fault(0), 0);
            kit.due("sort " + sort + ": place", x.fault(1), NONE);
            kit.due("sort " + sort + ": tape", x.end(1), NONE);
            kit.due("sort " + sort + ", at 0", Kit.retell(x, sort, 0, ""), -2);
        }
        kit.due("pictures", x.count(0), 0);
        kit.due("tests", x.count(1), 0);
    }

    private void aFaultBringsNothing() {
        FringeBench x = full();
        kit.due("picture", Kit.retell(x, 0, 1, VORTEX + "size 9 9;"), NONE);
        kit.due("it stays", x.picture(1, 0), 3);
        kit.due("none of it is THERE", x.picture(1, 3), 0);
        kit.due("test", Kit.retell(x, 1, 1, "wrong 1;%"), NONE);
        kit.due("its limits stay", x.test(1, 0, 0), 1);
        kit.due("all of them", x.test(1, NONE, 0), 2);
        kit.due("the tape is empty", x.end(1), NONE);
    }

    private void aFaultOfAFurtherOneBringsNone() {
        FringeBench x = new FringeBench();
        kit.due("picture", Kit.tell(x, 0, "least 0;"), NONE);
        kit.due("pictures", x.count(0), 0);
        kit.due("the next one is the first", Kit.tell(x, 0, ""), 0);
        kit.due("test", Kit.tell(x, 1, "cost;"), NONE);
        kit.due("tests", x.count(1), 0);
        kit.due("the next test is the first", Kit.tell(x, 1, ""), 0);
        kit.due("its FAULT", x.fault(0), 0);
    }

    private void nothingOfAFaultyTextStaysForTheNext() {
        FringeBench x = new FringeBench();
        Kit.tell(x, 0, "size 5 5;least 9;hole 1;weight 2 7;phase 3 30;step 0 4 40;%");
        Kit.tell(x, 0, "");
        kit.due("W", x.picture(0, 0), 3);
        kit.due("H", x.picture(0, 1), 3);
        kit.due("LEAST", x.picture(0, 2), 1);
        kit.due("HOLE", x.pixel(0, 1, 7), 0);
        kit.due("WEIGHT", x.pixel(0, 2, 4), 1);
        kit.due("PHASE", x.pixel(0, 3, 6), NONE);
        kit.due("STEP", x.pixel(0, 4, 0), 0);
        Kit.tell(x, 0, "hole 24;%");
        kit.due("what was told of is forgotten", Kit.tell(x, 0, "hole 8;"), 1);
    }

    private void anEmptyTapeIsAText() {
        FringeBench x = new FringeBench();
        kit.due("picture", x.text(0, NONE), 0);
        kit.due("W", x.picture(0, 0), 3);
        kit.due("H", x.picture(0, 1), 3);
        kit.due("test", x.text(1, NONE), 0);
        kit.due("limits", x.test(0, NONE, 0), 0);
        kit.due("FAULT", x.fault(0), 0);
    }

    // ---- promise 5

    private void withoutAFaultThereIsNoPlace() {
        FringeBench x = new FringeBench();
        Kit.tell(x, 0, "%");
        Kit.tell(x, 0, "");
        kit.due("FAULT", x.fault(0), 0);
        kit.due("place", x.fault(1), NONE);
    }

    private void anotherWhatOfAFaultIsNone() {
        FringeBench x = new FringeBench();
        Kit.tell(x, 0, " %");
        for (int what : new int[] {-1, 2, 3, LEAST, GREATEST}) {
            kit.due("what " + what, x.fault(what), NONE);
        }
        kit.due("what 0", x.fault(0), 1);
        kit.due("what 1", x.fault(1), 1);
    }

    private void theLatestTextHasTheFault() {
        FringeBench x = new FringeBench();
        Kit.tell(x, 0, "least 0;");
        kit.due("FAULT", x.fault(0), 2);
        Kit.tell(x, 1, Kit.repeated("cost 1;", 9));
        kit.due("FAULT of the next", x.fault(0), 3);
        kit.due("its place", x.fault(1), 56);
        Kit.put(x, "%");
        kit.due("a tape alone has none", x.fault(0), 3);
    }

    // ---- term 1: what can be told

    private void sizesAre2To5() {
        for (int size = 2; size <= 5; size++) {
            kit.good(0, "size " + size + " 2;");
            kit.good(0, "size 2 " + size + ";");
        }
        for (int size : new int[] {0, 1, 6, 9999}) {
            kit.faulty(0, "size " + size + " 2;", 2, 5);
            kit.faulty(0, "size 2 " + size + ";", 2, 7);
        }
    }

    private void a3By3AtFirst() {
        FringeBench x = Kit.withPictures("");
        kit.due("W", x.picture(0, 0), 3);
        kit.due("H", x.picture(0, 1), 3);
        kit.due("LEAST", x.picture(0, 2), 1);
        for (int pixel = 0; pixel < 9; pixel++) {
            for (int step = 0; step <= 3; step++) {
                kit.due("STEP " + step + " of " + pixel, x.pixel(0, pixel, step), 0);
            }
            kit.due("WEIGHT of " + pixel, x.pixel(0, pixel, 4), 1);
            kit.due("PHASE of " + pixel, x.pixel(0, pixel, 6), NONE);
            kit.due("HOLE " + pixel, x.pixel(0, pixel, 7), 0);
        }
    }

    private void whichStepIs0To3() {
        for (int step = 0; step <= 3; step++) {
            FringeBench x = Kit.withPictures("step " + step + " 0 7;");
            kit.due("STEP " + step, x.pixel(0, 0, step), 7);
        }
        kit.faulty(0, "step 4 0 7;", 2, 5);
        kit.faulty(0, "step 9999 0 7;", 2, 5);
    }

    private void stepsAre0To99() {
        FringeBench x = Kit.withPictures("step 2 0 99 5;step 2 1 0;");
        kit.due("99", x.pixel(0, 0, 2), 99);
        kit.due("0", x.pixel(0, 1, 2), 0);
        kit.faulty(0, "step 0 0 100;", 2, 9);
        kit.faulty(0, "step 0 0 0 100 0;", 2, 11);
        kit.faulty(0, "step 0 0 9999;", 2, 9);
    }

    private void phasesAre0To399() {
        FringeBench x = Kit.withPictures("phase 0 0 399;");
        kit.due("0", x.pixel(0, 0, 6), 0);
        kit.due("399", x.pixel(0, 1, 6), 399);
        kit.faulty(0, "phase 0 400;", 2, 8);
        kit.faulty(0, "phase 0 0 400 0;", 2, 10);
        kit.faulty(0, "phase 0 9999;", 2, 8);
    }

    private void weightsAre1To9() {
        FringeBench x = Kit.withPictures("weight 0 1;weight 1 9;");
        kit.due("1", x.pixel(0, 0, 4), 1);
        kit.due("9", x.pixel(0, 1, 4), 9);
        kit.faulty(0, "weight 0 0;", 2, 9);
        kit.faulty(0, "weight 0 10;", 2, 9);
    }

    private void leastIs1To198() {
        FringeBench x = Kit.withPictures("least 1;", "least 198;");
        kit.due("1", x.picture(0, 2), 1);
        kit.due("198", x.picture(1, 2), 198);
        kit.faulty(0, "least 0;", 2, 6);
        kit.faulty(0, "least 199;", 2, 6);
    }

    private void pixelsAre0To24() {
        kit.good(0, "size 5 5;hole 0 24;weight 24 1;phase 24 1;step 0 24 1;");
        kit.faulty(0, "hole 25;", 2, 5);
        kit.faulty(0, "hole 24 25;", 2, 8);
        kit.faulty(0, "weight 25 1;", 2, 7);
        kit.faulty(0, "phase 25 1;", 2, 6);
        kit.faulty(0, "step 0 25 1;", 2, 7);
        kit.faulty(0, "hole 9999;", 2, 5);
    }

    private void aRowOfStepsEndsAt24() {
        kit.good(0, "size 5 5;step 3 24 1;");
        kit.good(0, "size 5 5;step 3 0" + Kit.repeated(" 1", 25) + ";");
        kit.faulty(0, "size 5 5;step 3 24 1 1;", 2, 21);
        kit.faulty(0, "size 5 5;step 3 0" + Kit.repeated(" 1", 27) + ";", 2, 68);
        FringeBench x = Kit.withPictures("size 5 5;step 3 22 1 2 3;");
        kit.due("22", x.pixel(0, 22, 3), 1);
        kit.due("24", x.pixel(0, 24, 3), 3);
        kit.due("21", x.pixel(0, 21, 3), 0);
    }

    private void aRowOfPhasesEndsAt24() {
        kit.good(0, "size 5 5;phase 24 1;");
        kit.good(0, "size 5 5;phase 0" + Kit.repeated(" 1", 25) + ";");
        kit.faulty(0, "size 5 5;phase 24 1 1;", 2, 20);
        kit.faulty(0, "size 5 5;phase 0" + Kit.repeated(" 1", 27) + ";", 2, 67);
        FringeBench x = Kit.withPictures("size 5 5;phase 22 1 2 3;");
        kit.due("22", x.pixel(0, 22, 6), 1);
        kit.due("24", x.pixel(0, 24, 6), 3);
        kit.due("21", x.pixel(0, 21, 6), NONE);
    }

    private void limitsAre8AtMost() {
        kit.good(1, Kit.repeated("cost 1;", 8));
        kit.faulty(1, Kit.repeated("cost 1;", 9), 3, 56);
        kit.faulty(1, Kit.repeated("cost 1;", 8) + "\n lost 1;high 2;", 3, 58);
        kit.faulty(1, Kit.repeated("cost 1;", 85), 3, 56);
    }

    private void numbersOfLimitsAre0To9999() {
        for (String word : TEST_WORDS) {
            FringeBench x = new FringeBench();
            Kit.tell(x, 1, word + " 0;" + word + " 9999;");
            kit.due(word + " 0", x.test(0, 0, 1), 0);
            kit.due(word + " 9999", x.test(0, 1, 1), 9999);
            kit.faulty(1, word + " 10000;", 1, word.length() + 1);
        }
    }

    // ---- term 1: tokens

    private void aTextMayFillTheTape() {
        String holes = "hole" + Kit.repeated(" 0", 297) + " ";
        kit.good(0, holes + ";");
        kit.faulty(0, holes + "0", 1, 600);
        kit.faulty(0, holes + "%", 1, 599);
        kit.good(1, Kit.repeated(" ", 592) + "high  1;");
        kit.faulty(1, Kit.repeated(" ", 595) + "cost ", 1, 600);
    }

    private void aWordIsAsLongAsItGoes() {
        kit.faulty(0, "leasts 1;", 1, 0);
        kit.faulty(0, "leas 1;", 1, 0);
        kit.faulty(0, "sizesize 2 2;", 1, 0);
        kit.faulty(1, "cos 1;", 1, 0);
        kit.faulty(1, "costs 1;", 1, 0);
        kit.faulty(0, Kit.repeated("a", 600), 1, 0);
    }

    private void wordsOfTheOtherSortAreNone() {
        for (String word : TEST_WORDS) {
            kit.good(1, word + " 1;");
            kit.faulty(0, word + " 1;", 1, 0);
        }
        kit.faulty(1, "least 1;", 1, 0);
        kit.faulty(1, "hole 1;", 1, 0);
        kit.faulty(1, "size 2 2;", 1, 0);
        kit.faulty(1, "step 0 0 0;", 1, 0);
        kit.faulty(1, "phase 0 0;", 1, 0);
        kit.faulty(1, "weight 0 1;", 1, 0);
    }

    private void aNumberHas1To4Digits() {
        FringeBench x = Kit.withPictures("least 7;", "least 0007;");
        kit.due("1 digit", x.picture(0, 2), 7);
        kit.due("4 digits", x.picture(1, 2), 7);
        kit.faulty(0, "least 00007;", 1, 6);
        kit.faulty(0, "hole 0 1 00007;", 1, 9);
        kit.faulty(0, "least " + Kit.repeated("0", 593) + ";", 1, 6);
        kit.faulty(0, Kit.repeated("1", 600), 1, 0);
    }

    private void theBlanksAre10And32() {
        kit.good(0, "\nleast\n1 ;\n ");
        for (int sign = 0; sign < 256; sign++) {
            if (sign != 10 && sign != 32) {
                boolean isSemicolon = sign == ';';
                kit.faulty(0, "least" + (char) sign + " 1;", 1, isSemicolon || !isToken(sign) ? 5 : sign <= '9' ? 7 : 0);
            }
        }
    }

    private static boolean isToken(int sign) {
        return sign >= 'a' && sign <= 'z' || sign >= '0' && sign <= '9';
    }

    private void blanksMayBeMissing() {
        kit.good(0, "size2 2;least0009;hole0 1;");
        kit.faulty(0, "size22;", 1, 6);
        kit.good(1, "cost1;lost2;");
    }

    private void besideTheLettersAndDigitsNothingIsAToken() {
        for (char sign : new char[] {'`', '{', '@', 'A', 'Z', '[', '/', ':', '<', 0, 127, 128, 255}) {
            kit.faulty(0, "least 1;" + sign, 1, 8);
            kit.faulty(0, "least 1" + sign + ";", 1, 7);
            kit.faulty(1, sign + "cost 1;", 1, 0);
        }
    }

    private void lettersAreAToZ() {
        kit.faulty(0, "az;", 1, 0);
        kit.faulty(0, "  zz 1;", 1, 2);
        kit.faulty(0, "leastz 1;", 1, 0);
        kit.faulty(0, "leasta 1;", 1, 0);
        kit.good(0, "size 2 2;");
    }

    private void digitsAre0To9() {
        kit.good(0, "least 109;least 90;");
        kit.faulty(0, "0;", 1, 0);
        kit.faulty(0, "9;", 1, 0);
    }

    // ---- term 1: how many numbers a line has

    private void sizeHas2Numbers() {
        kit.good(0, "size 2 2;");
        kit.faulty(0, "size;", 1, 4);
        kit.faulty(0, "size 2;", 1, 6);
        kit.faulty(0, "size 2 2 2;", 1, 9);
    }

    private void stepHas3NumbersAtLeast() {
        kit.good(0, "step 0 0 0;");
        kit.good(0, "step 0 0 0 0;");
        kit.faulty(0, "step;", 1, 4);
        kit.faulty(0, "step 0;", 1, 6);
        kit.faulty(0, "step 0 0;", 1, 8);
    }

    private void phaseHas2NumbersAtLeast() {
        kit.good(0, "phase 0 0;");
        kit.good(0, "phase 0 0 0;");
        kit.faulty(0, "phase;", 1, 5);
        kit.faulty(0, "phase 0;", 1, 7);
    }

    private void holeHas1NumberAtLeast() {
        kit.good(0, "hole 0;");
        kit.good(0, "hole 0 1 2 0;");
        kit.faulty(0, "hole;", 1, 4);
    }

    private void weightHas2Numbers() {
        kit.good(0, "weight 0 1;");
        kit.faulty(0, "weight;", 1, 6);
        kit.faulty(0, "weight 0;", 1, 8);
        kit.faulty(0, "weight 0 1 1;", 1, 11);
    }

    private void leastHas1Number() {
        kit.good(0, "least 1;");
        kit.faulty(0, "least;", 1, 5);
        kit.faulty(0, "least 1 1;", 1, 8);
    }

    private void aLimitHas1Number() {
        for (String word : TEST_WORDS) {
            int length = word.length();
            kit.good(1, word + " 1;");
            kit.faulty(1, word + ";", 1, length);
            kit.faulty(1, word + " 1 1;", 1, length + 3);
            kit.faulty(1, word + " 1", 1, length + 2);
            kit.faulty(1, word, 1, length);
        }
    }

    private void everyLineEndsWithASemicolon() {
        kit.faulty(0, ";", 1, 0);
        kit.faulty(0, "least 1;;", 1, 8);
        kit.faulty(0, "least 1 least 1;", 1, 8);
        kit.faulty(0, "hole 1 hole 2;", 1, 7);
        kit.faulty(1, ";", 1, 0);
        kit.faulty(1, "cost 1;;", 1, 7);
        kit.faulty(1, "cost 1 lost 1;", 1, 7);
    }

    private void atTheEndThePlaceIsTheEnds() {
        kit.faulty(0, "hole", 1, 4);
        kit.faulty(0, "hole 1", 1, 6);
        kit.faulty(0, "hole 1 \n ", 1, 9);
        kit.faulty(1, "cost", 1, 4);
        kit.faulty(1, "cost 1  ", 1, 8);
    }

    // ---- term 1: later ones strike

    private void laterOnesStrike() {
        FringeBench x = Kit.withPictures("size 5 5;size 3 2;least 9;least 8;weight 1 4;weight 1 3;"
                + "phase 2 7 8;phase 3 9;step 0 4 1 2;step 0 5 3;");
        kit.due("W", x.picture(0, 0), 3);
        kit.due("H", x.picture(0, 1), 2);
        kit.due("LEAST", x.picture(0, 2), 8);
        kit.due("WEIGHT", x.pixel(0, 1, 4), 3);
        kit.due("PHASE of 2", x.pixel(0, 2, 6), 7);
        kit.due("PHASE of 3", x.pixel(0, 3, 6), 9);
        kit.due("STEP of 4", x.pixel(0, 4, 0), 1);
        kit.due("STEP of 5", x.pixel(0, 5, 0), 3);
    }

    private void laterHolesAreFurtherOnes() {
        FringeBench x = Kit.withPictures("hole 0;hole 1 2;hole 1;");
        for (int pixel = 0; pixel <= 3; pixel++) {
            kit.due("HOLE " + pixel, x.pixel(0, pixel, 7), pixel < 3 ? 1 : 0);
        }
    }

    private void laterLimitsAreFurtherOnes() {
        FringeBench x = new FringeBench();
        Kit.tell(x, 1, "cost 5;cost 4;cost 5;");
        kit.due("limits", x.test(0, NONE, 0), 3);
        kit.due("the first", x.test(0, 0, 1), 5);
        kit.due("the second", x.test(0, 1, 1), 4);
        kit.due("the third", x.test(0, 2, 1), 5);
    }

    private void everyPixelMayBeAHole() {
        FringeBench x = Kit.withPictures("size 2 2;hole 0 1 2 3;phase 0 1 2 3 4;");
        kit.due("THERE", x.picture(0, 3), 0);
        kit.due("PARTS", x.picture(0, 4), 0);
    }

    // ---- term 1: which fault it is

    private void fault1IsBeforeAllOthers() {
        kit.faulty(0, "least 0;%", 1, 8);
        kit.faulty(0, "least 0", 1, 7);
        kit.faulty(0, "size 9 9 9;", 1, 9);
        kit.faulty(0, "phase 24 0 0 0", 1, 14);
        kit.faulty(0, "hole 9;least", 1, 12);
        kit.faulty(1, Kit.repeated("cost 1;", 9) + "cost", 1, 67);
        kit.faulty(1, Kit.repeated("cost 1;", 8) + "cost 12345;", 1, 61);
    }

    private void theFirstFault1Counts() {
        kit.faulty(0, "% %", 1, 0);
        kit.faulty(0, "size 2;size;", 1, 6);
        kit.faulty(0, "hole 12345 %", 1, 5);
    }

    private void theFirstFault2ByPlaceCounts() {
        kit.faulty(0, "least 0;least 199;", 2, 6);
        kit.faulty(0, "step 4 25 100;", 2, 5);
        kit.faulty(0, "step 0 25 100;", 2, 7);
        kit.faulty(0, "step 0 24 1 100;", 2, 12);
        kit.faulty(0, "size 6 6;", 2, 5);
        kit.faulty(0, "weight 25 0;", 2, 7);
    }

    private void fault2IsBeforeFault4() {
        kit.faulty(0, "hole 9;least 0;", 2, 13);
        kit.faulty(0, "hole 9 25;", 2, 7);
        kit.faulty(0, "size 2 6;hole 24;", 2, 7);
    }

    private void fault4IsOfEachKindOfLine() {
        kit.faulty(0, "hole 8 9;", 4, 9);
        kit.faulty(0, "weight 9 1;", 4, 11);
        kit.faulty(0, "phase 9 0;", 4, 10);
        kit.faulty(0, "step 0 9 0;", 4, 11);
        kit.good(0, "hole 8;weight 8 1;phase 8 0;step 0 8 0;");
    }

    private void fault4IsOfTheLastOfARowToo() {
        kit.faulty(0, "phase 8 0 0;", 4, 12);
        kit.faulty(0, "step 0 8 0 0;", 4, 13);
        kit.good(0, "phase 7 0 0;step 0 7 0 0;");
    }

    private void fault4IsByTheSizeAtTheEnd() {
        kit.good(0, "hole 24;size 5 5;");
        kit.faulty(0, "size 5 5;hole 24;size 5 4;", 4, 26);
        kit.good(0, "size 5 5;hole 19;size 5 4;");
        kit.good(0, "size 2 2;hole 3;");
        kit.faulty(0, "size 2 2;hole 4;", 4, 16);
        kit.good(0, "size 2 5;hole 9;");
        kit.faulty(0, "size 2 5;hole 10;", 4, 17);
    }

    private void fault4IsAtTheEndsPlace() {
        kit.faulty(0, "hole 9;", 4, 7);
        kit.faulty(0, "hole 9; \n ", 4, 10);
        kit.faulty(0, "hole 9;hole 0;", 4, 14);
        kit.faulty(0, "hole 9;" + Kit.repeated(" ", 593), 4, 600);
    }

    // ---- promise 19

    private void howManyLimitsATestHas() {
        for (int limits = 0; limits <= 8; limits++) {
            FringeBench x = new FringeBench();
            Kit.tell(x, 1, Kit.repeated("wrong 1;", limits));
            kit.due("limits", x.test(0, NONE, 0), limits);
            kit.due("behind the last of " + limits, x.test(0, limits, 0), NONE);
            kit.due("the last of " + limits, x.test(0, limits - 1, 1), limits == 0 ? NONE : 1);
        }
    }

    private void theKindsOfLimits() {
        for (int kind = 0; kind < 6; kind++) {
            FringeBench x = new FringeBench();
            Kit.tell(x, 1, TEST_WORDS[kind] + " 12;");
            kit.due(TEST_WORDS[kind], x.test(0, 0, 0), kind);
            kit.due(TEST_WORDS[kind] + " number", x.test(0, 0, 1), 12);
        }
    }

    private void aLimitThatIsNotThereIsNone() {
        FringeBench x = full();
        for (int k : new int[] {2, 7, 8, -2, LEAST, GREATEST}) {
            kit.due("limit " + k, x.test(1, k, 0), NONE);
            kit.due("limit " + k + " number", x.test(1, k, 1), NONE);
        }
    }

    private void anotherWhatOfALimitIsNone() {
        FringeBench x = full();
        for (int what : new int[] {-1, 2, LEAST, GREATEST}) {
            kit.due("limit 0, what " + what, x.test(1, 0, what), NONE);
            kit.due("how many, what " + what, x.test(1, NONE, what), NONE);
        }
        kit.due("how many, what 1", x.test(1, NONE, 1), NONE);
    }

    private void aTestThatIsNotThereIsNone() {
        FringeBench x = new FringeBench();
        Kit.tell(x, 1, "cost 1;");
        for (int test : new int[] {1, 2, -1, LEAST, GREATEST}) {
            kit.due("test " + test, x.test(test, NONE, 0), NONE);
            kit.due("test " + test + ", limit 0", x.test(test, 0, 0), NONE);
        }
        kit.due("test 2 of two", full().test(2, NONE, 0), NONE);
    }

    // ---- promise 28

    private void countOfEachSort() {
        FringeBench x = full();
        kit.due("pictures", x.count(0), 3);
        kit.due("tests", x.count(1), 2);
        FringeBench y = new FringeBench();
        kit.due("no pictures", y.count(0), 0);
        kit.due("no tests", y.count(1), 0);
    }

    private void countOfAnotherSort() {
        for (int sort : new int[] {-1, 2, -2, LEAST, GREATEST}) {
            kit.due("sort " + sort, full().count(sort), -2);
        }
    }

    // ---- promises 29 and 30

    private void anotherImageIsFalse() {
        FringeBench x = full();
        for (int k : new int[] {-1, 3, LEAST, GREATEST}) {
            kit.due("image " + k, x.image(k), false);
            kit.due("again " + k, x.again(k), false);
        }
        for (int k = 0; k <= 2; k++) {
            kit.due("no image " + k + " came of it", x.again(k), false);
        }
    }

    private void eachOf3ImagesIsOneOfItsOwn() {
        FringeBench x = new FringeBench();
        for (int k = 0; k <= 2; k++) {
            kit.due("image " + k, x.image(k), true);
            Kit.tell(x, 0, "");
        }
        for (int k = 2; k >= 0; k--) {
            kit.due("again " + k, x.again(k), true);
            kit.due("pictures " + k, x.count(0), k);
        }
    }

    private void againWithoutThatImageChangesNothing() {
        FringeBench x = full();
        x.image(1);
        Kit.put(x, "abc");
        kit.due("again 0", x.again(0), false);
        kit.due("again 2", x.again(2), false);
        kit.due("pictures", x.count(0), 3);
        kit.due("tape", x.end(3), 3);
    }

    private void anImageOfNothingBringsNothingBack() {
        FringeBench x = new FringeBench();
        x.image(0);
        Kit.tell(x, 0, VORTEX);
        Kit.tell(x, 1, "cost 1;");
        Kit.tell(x, 1, "%");
        Kit.put(x, "abc");
        kit.due("again", x.again(0), true);
        kit.due("pictures", x.count(0), 0);
        kit.due("tests", x.count(1), 0);
        kit.due("FAULT", x.fault(0), 0);
        kit.due("place", x.fault(1), NONE);
        kit.due("tape", x.end(1), NONE);
        kit.due("its COST", x.picture(0, 7), -2);
        kit.due("a next one is as if new", Kit.tell(x, 0, ""), 0);
        kit.due("nothing is THERE of it", x.picture(0, 3), 0);
    }

    private void anImageHasTheFullTape() {
        FringeBench x = new FringeBench();
        Kit.put(x, Kit.repeated(" ", 599) + "%");
        x.image(0);
        x.end(0);
        Kit.put(x, Kit.repeated("x", 600));
        x.again(0);
        kit.due("feed", feedBlanks(x), NONE);
        kit.due("end", x.end(600), 600);
        kit.due("text", x.text(0, NONE), NONE);
        kit.due("place", x.fault(1), 599);
    }

    private void anImageHasTheFault() {
        FringeBench x = new FringeBench();
        Kit.tell(x, 0, "  least 0;");
        x.image(0);
        Kit.tell(x, 0, "");
        x.again(0);
        kit.due("FAULT", x.fault(0), 2);
        kit.due("place", x.fault(1), 8);
    }

    private void anImageStaysAsItWas() {
        FringeBench x = Kit.withPictures(VORTEX);
        Kit.tell(x, 1, "cost 1;lost 2;");
        Kit.put(x, "least 1;");
        x.image(0);
        for (int i = 0; i < 2; i++) {
            x.end(0);
            Kit.put(x, "%%%%%%%%%");
            Kit.retell(x, 0, 0, "size 5 5;hole 0 1 2 3;weight 1 9;step 0 2 9;least 7;");
            Kit.retell(x, 1, 0, "wrong 1;");
            kit.due("again", x.again(0), true);
            kit.due("W", x.picture(0, 0), 2);
            kit.due("LEAST", x.picture(0, 2), 1);
            kit.due("COST", x.picture(0, 7), 1);
            kit.due("HOLE", x.pixel(0, 0, 7), 0);
            kit.due("WEIGHT", x.pixel(0, 1, 4), 1);
            kit.due("STEP", x.pixel(0, 2, 0), 0);
            kit.due("limits", x.test(0, NONE, 0), 2);
            kit.due("kind", x.test(0, 0, 0), 0);
            kit.due("tape", x.end(8), 8);
        }
        kit.due("what is on the tape", x.text(0, NONE), 1);
    }

    private void aLaterImageStrikes() {
        FringeBench x = new FringeBench();
        x.image(0);
        Kit.tell(x, 0, VORTEX);
        x.image(0);
        Kit.retell(x, 0, 0, "");
        x.again(0);
        kit.due("COST", x.picture(0, 7), 1);
    }

    private void againLeavesTheImages() {
        FringeBench x = new FringeBench();
        x.image(0);
        Kit.tell(x, 0, VORTEX);
        x.image(1);
        kit.due("again 0", x.again(0), true);
        kit.due("again 1", x.again(1), true);
        kit.due("COST", x.picture(0, 7), 1);
        kit.due("again 0 once more", x.again(0), true);
        kit.due("pictures", x.count(0), 0);
    }

    private void againChangesWhatWasAskedBefore() {
        FringeBench x = Kit.withPictures(VORTEX);
        x.image(0);
        Kit.retell(x, 0, 0, "size 2 2;phase 0 0 0 0;");
        kit.due("COST before", x.picture(0, 7), 0);
        x.again(0);
        kit.due("COST", x.picture(0, 7), 1);
        kit.due("THERE", x.picture(0, 3), 4);
    }

    // ---- 512 calls

    private void the512thCallAnswers() {
        FringeBench x = new FringeBench();
        for (int call = 1; call <= 511; call += 7) {
            kit.due("image " + call, x.image(2), true);
            kit.due("feed " + call, x.feed(0x6c656173, 0x74203139, 0x383b2020, BLANKS, BLANKS), 20);
            kit.due("text " + call, x.text(0, call == 1 ? NONE : 0), 0);
            kit.due("LEAST " + call, x.picture(0, 2), 198);
            kit.due("again " + call, x.again(2), true);
            x.feed(0x6c656173, 0x74203139, 0x373b2020, BLANKS, BLANKS);
            x.text(0, call == 1 ? NONE : 0);
        }
        kit.due("call 512", x.picture(0, 2), 197);
    }
}
