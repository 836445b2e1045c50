/** Each promise of the document by answers that were worked out by hand. */
public final class PromiseTests {
    private static final int NONE = FringeBench.NONE;
    private static final int NO_HEIGHT = -1000000;

    /** Phases that turn once round the only FOUR: 0 100 over 300 200. */
    private static final String VORTEX = "size 2 2;phase 0 0 100 300 200;";
    /** A ramp that goes over a turn in each row: 0 150 300 50 (450) 200 (600). */
    private static final String RAMP = "size 5 2;phase 0 0 150 300 50 200 0 150 300 50 200;";

    private final Kit kit = new Kit("PromiseTests");

    public static void main(String[] args) {
        PromiseTests tests = new PromiseTests();
        tests.newObject();
        tests.feedAndEnd();
        tests.texts();
        tests.syntaxFaults();
        tests.numberFaults();
        tests.laterFaults();
        tests.laterOnesStrike();
        tests.pictures();
        tests.roughAndMend();
        tests.pixels();
        tests.phasesBySums();
        tests.heights();
        tests.differences();
        tests.fours();
        tests.parts();
        tests.planes();
        tests.outs();
        tests.heavies();
        tests.stitches();
        tests.bests();
        tests.flats();
        tests.draws();
        tests.limits();
        tests.failing();
        tests.rounds();
        tests.pairs();
        tests.aboves();
        tests.fringes();
        tests.toughs();
        tests.dims();
        tests.solids();
        tests.counts();
        tests.images();
        tests.manyCalls();
        tests.kit.finish();
    }

    // promise 1
    private void newObject() {
        FringeBench x = new FringeBench();
        kit.due("NONE", FringeBench.NONE, -1);
        kit.due("new: pictures", x.count(0), 0);
        kit.due("new: tests", x.count(1), 0);
        kit.due("new: fault", x.fault(0), 0);
        kit.due("new: place", x.fault(1), NONE);
        kit.due("new: picture", x.picture(0, 0), -2);
        kit.due("new: no image 0", x.again(0), false);
        kit.due("new: no image 2", x.again(2), false);
        kit.due("new: empty tape", x.end(1), NONE);
    }

    // promises 2 and 3
    private void feedAndEnd() {
        FringeBench x = new FringeBench();
        for (int i = 1; i <= 30; i++) {
            kit.due("feed " + i, x.feed(0x20202020, 0x20202020, 0x20202020, 0x20202020, 0x20202020), 20 * i);
        }
        kit.due("feed 31", x.feed(0, 0, 0, 0, 0), NONE);
        kit.due("end 601", x.end(601), NONE);
        kit.due("end 600", x.end(600), 600);
        kit.due("end 581", x.end(581), 581);
        kit.due("feed at 581", x.feed(0, 0, 0, 0, 0), NONE);
        kit.due("nothing came", x.end(582), NONE);
        kit.due("end 580", x.end(580), 580);
        kit.due("feed at 580", x.feed(0x20202020, 0x20202020, 0x20202020, 0x20202020, 0x20202020), 600);
        kit.due("end -1", x.end(-1), NONE);
        kit.due("end least", x.end(Integer.MIN_VALUE), NONE);
        kit.due("end greatest", x.end(Integer.MAX_VALUE), NONE);
        kit.due("600 blanks are a picture", x.text(0, NONE), 0);
        kit.due("the tape was taken", x.end(1), NONE);
        kit.due("end 0", x.end(0), 0);
        // "size" and " 2 5" of each number the highest byte first
        kit.due("feed size", x.feed(0x73697a65, 0x20322035, 0x3b202020, 0x20202020, 0x20202020), 20);
        kit.due("text", x.text(0, NONE), 1);
        kit.due("W", x.picture(1, 0), 2);
        kit.due("H", x.picture(1, 1), 5);
        x.feed(-1, 0x80808080, 0, 0, 0);
        kit.due("a byte 255", x.text(0, NONE), NONE);
        kit.due("a byte 255: place", x.fault(1), 0);
    }

    // promise 4
    private void texts() {
        FringeBench x = new FringeBench();
        kit.due("text in the place of none", x.text(0, 0), -2);
        kit.due("picture 0", Kit.tell(x, 0, ""), 0);
        kit.due("picture 1", Kit.tell(x, 0, "size 2 2;"), 1);
        kit.due("picture 2", Kit.tell(x, 0, "size 4 4;"), 2);
        kit.due("picture 3", Kit.tell(x, 0, "size 4 4;"), -2);
        kit.due("its tape is empty", x.end(1), NONE);
        Kit.put(x, "size 5 4;");
        kit.due("in the place of 1", x.text(0, 1), 1);
        kit.due("W of 1", x.picture(1, 0), 5);
        kit.due("W of 0", x.picture(0, 0), 3);
        Kit.put(x, "size 5 6;");
        kit.due("a fault in the place of 1", x.text(0, 1), NONE);
        kit.due("1 stays", x.picture(1, 1), 4);
        kit.due("a fault empties the tape", x.end(1), NONE);
        kit.due("fault 2", x.fault(0), 2);
        Kit.put(x, "%");
        kit.due("in the place of 3", x.text(0, 3), -2);
        kit.due("no text is read", x.fault(0), 0);
        kit.due("no place", x.fault(1), NONE);
        kit.due("the tape is empty", x.end(1), NONE);
        kit.due("at -2", x.text(0, -2), -2);
        Kit.put(x, "cost 1;");
        kit.due("sort 2", x.text(2, NONE), -2);
        kit.due("sort 2 empties the tape", x.end(1), NONE);
        kit.due("sort -1", x.text(-1, NONE), -2);
        kit.due("test 0", Kit.tell(x, 1, "cost 1;"), 0);
        kit.due("test 1", Kit.tell(x, 1, ""), 1);
        kit.due("test 2", Kit.tell(x, 1, ""), -2);
        Kit.put(x, "high 12;lost 1;");
        kit.due("in the place of test 0", x.text(1, 0), 0);
        kit.due("two limits", x.test(0, NONE, 0), 2);
        kit.due("three pictures", x.count(0), 3);
        kit.due("two tests", x.count(1), 2);
    }

    // promise 5, fault 1
    private void syntaxFaults() {
        kit.faulty(0, "", 0, NONE);
        kit.faulty(0, " \n ", 0, NONE);
        kit.faulty(0, "size3 3;least0004;", 0, NONE);
        kit.faulty(0, "size\n3 3 ; \n", 0, NONE);
        kit.faulty(0, "size 3 3", 1, 8);
        kit.faulty(0, "size 3 3  ", 1, 10);
        kit.faulty(0, "size 3;", 1, 6);
        kit.faulty(0, "size 3 3 3;", 1, 9);
        kit.faulty(0, "sizes 3 3;", 1, 0);
        kit.faulty(0, " siz 3 3;", 1, 1);
        kit.faulty(0, ";", 1, 0);
        kit.faulty(0, "3;", 1, 0);
        kit.faulty(0, "step 0 0;", 1, 8);
        kit.faulty(0, "step 0 0 1;;", 1, 11);
        kit.faulty(0, "phase 0;", 1, 7);
        kit.faulty(0, "hole;", 1, 4);
        kit.faulty(0, "weight 1;", 1, 8);
        kit.faulty(0, "weight 1 2 3;", 1, 11);
        kit.faulty(0, "least 1 1;", 1, 8);
        kit.faulty(0, "least 10000;", 1, 6);
        kit.faulty(0, "least 00001;", 1, 6);
        kit.faulty(0, "least\t1;", 1, 5);
        kit.faulty(0, "least -1;", 1, 6);
        kit.faulty(0, "leastA1;", 1, 5);
        kit.faulty(0, "Least 1;", 1, 0);
        kit.faulty(0, "least 1;\u00e9", 1, 8);
        kit.faulty(0, "cost 1;", 1, 0);
        kit.faulty(0, "least 0;size", 1, 12);
        kit.faulty(0, "hole 25 size", 1, 8);
        kit.faulty(1, "size 3 3;", 1, 0);
        kit.faulty(1, "cost;", 1, 4);
        kit.faulty(1, "cost 1 1;", 1, 7);
        kit.faulty(1, "cost 99999;", 1, 5);
        kit.faulty(1, "cost 9999;", 0, NONE);
        kit.faulty(1, Kit.repeated("cost 1;", 9) + "x", 1, 63);
    }

    // promise 5, fault 2
    private void numberFaults() {
        kit.faulty(0, "size 1 2;", 2, 5);
        kit.faulty(0, "size 2 6;", 2, 7);
        kit.faulty(0, "size 2 5;", 0, NONE);
        kit.faulty(0, "size 5 2;", 0, NONE);
        kit.faulty(0, "step 4 0 1;", 2, 5);
        kit.faulty(0, "step 3 0 1;", 0, NONE);
        kit.faulty(0, "step 0 25 1;", 2, 7);
        kit.faulty(0, "step 0 0 100;", 2, 9);
        kit.faulty(0, "step 0 0 99 0 99;", 0, NONE);
        kit.faulty(0, "size 5 5;step 0 23 1 1;", 0, NONE);
        kit.faulty(0, "size 5 5;step 0 23 1 1 1;", 2, 23);
        kit.faulty(0, "phase 0 400;", 2, 8);
        kit.faulty(0, "phase 0 399;", 0, NONE);
        kit.faulty(0, "phase 24 1 1;", 2, 11);
        kit.faulty(0, "hole 0 25;", 2, 7);
        kit.faulty(0, "weight 25 1;", 2, 7);
        kit.faulty(0, "weight 0 0;", 2, 9);
        kit.faulty(0, "weight 0 10;", 2, 9);
        kit.faulty(0, "weight 0 9;", 0, NONE);
        kit.faulty(0, "least 0;", 2, 6);
        kit.faulty(0, "least 199;", 2, 6);
        kit.faulty(0, "least 198;", 0, NONE);
        kit.faulty(0, "least 0;size 9 9;", 2, 6);
        kit.faulty(0, "hole 24;least 0;", 2, 14);
    }

    // promise 5, faults 3 and 4
    private void laterFaults() {
        kit.faulty(1, Kit.repeated("cost 1;", 8), 0, NONE);
        kit.faulty(1, Kit.repeated("cost 1;", 9), 3, 56);
        kit.faulty(1, Kit.repeated("cost 1;", 8) + " \nlost 1; high 2;", 3, 58);
        kit.faulty(0, "hole 9;", 4, 7);
        kit.faulty(0, "hole 8; ", 0, NONE);
        kit.faulty(0, "hole 9;  ", 4, 9);
        kit.faulty(0, "weight 9 1;", 4, 11);
        kit.faulty(0, "phase 9 0;", 4, 10);
        kit.faulty(0, "phase 8 0 0;", 4, 12);
        kit.faulty(0, "step 0 9 0;", 4, 11);
        kit.faulty(0, "step 0 8 0 0;", 4, 13);
        kit.faulty(0, "size 2 2;phase 3 1 1;", 4, 21);
        kit.faulty(0, "hole 9;size 5 2;", 0, NONE);
        kit.faulty(0, "size 5 2;hole 9;size 3 3;", 4, 25);
    }

    private void laterOnesStrike() {
        FringeBench x = Kit.withPictures("size 5 5;size 2 3;step 1 0 5 6 7;step 1 1 8;phase 3 1;phase 3 9;"
                + "weight 2 3;weight 2 4;least 5;least 6;hole 0;hole 4 5;hole 4;");
        kit.due("W", x.picture(0, 0), 2);
        kit.due("H", x.picture(0, 1), 3);
        kit.due("LEAST", x.picture(0, 2), 6);
        kit.due("step 1 of 0", x.pixel(0, 0, 1), 5);
        kit.due("step 1 of 1", x.pixel(0, 1, 1), 8);
        kit.due("step 1 of 2", x.pixel(0, 2, 1), 7);
        kit.due("step 0 of 2", x.pixel(0, 2, 0), 0);
        kit.due("phase of 3", x.pixel(0, 3, 6), 9);
        kit.due("weight of 2", x.pixel(0, 2, 4), 4);
        kit.due("hole 0", x.pixel(0, 0, 7), 1);
        kit.due("hole 1", x.pixel(0, 1, 7), 0);
        kit.due("hole 4", x.pixel(0, 4, 7), 1);
        kit.due("hole 5", x.pixel(0, 5, 7), 1);
        FringeBench y = Kit.withPictures("", "");
        kit.due("W at first", y.picture(0, 0), 3);
        kit.due("H at first", y.picture(0, 1), 3);
        kit.due("LEAST at first", y.picture(0, 2), 1);
        kit.due("WEIGHT at first", y.pixel(0, 8, 4), 1);
        kit.due("nothing is THERE at first", y.picture(0, 3), 0);
        Kit.put(y, "hole 1;phase 0 1;");
        y.text(0, 0);
        Kit.put(y, "");
        y.text(0, 0);
        kit.due("nothing is left of an earlier text", y.pixel(0, 1, 7), 0);
        kit.due("nor of its phases", y.pixel(0, 0, 6), NONE);
    }

    // promise 6
    private void pictures() {
        FringeBench x = Kit.withPictures(VORTEX, RAMP, "");
        int[] vortex = {2, 2, 1, 4, 1, 1, 0, 1, 1, 2, 0, 0, 1};
        int[] ramp = {5, 2, 1, 10, 1, 0, 0, 0, 0, 0, NONE, NONE, 10};
        int[] empty = {3, 3, 1, 0, 0, 0, 0, 0, 0, 0, NONE, NONE, 0};
        for (int what = 0; what <= 12; what++) {
            kit.due("vortex " + what, x.picture(0, what), vortex[what]);
            kit.due("ramp " + what, x.picture(1, what), ramp[what]);
            kit.due("empty " + what, x.picture(2, what), empty[what]);
        }
        kit.due("what 13", x.picture(0, 13), -2);
        kit.due("what -1", x.picture(0, -1), -2);
        kit.due("picture 3", x.picture(3, 0), -2);
        kit.due("picture -1", x.picture(-1, 0), -2);
        kit.due("the other way round", Kit.withPictures("size 2 2;phase 0 0 300 100 200;").picture(0, 6), 1);
    }

    private void roughAndMend() {
        // Right column heavy: the leap is cheaper on the left side or across.
        FringeBench x = Kit.withPictures("size 2 2;phase 0 0 100 300 200;weight 0 5;weight 1 4;weight 2 3;weight 3 2;");
        // Joints weigh 4 (0, 1), 3 (0, 2), 2 (1, 3), 2 (2, 3).
        kit.due("COST", x.picture(0, 7), 2);
        kit.due("TURNS of 1", x.height(0, 1, 1), 0);
        kit.due("TURNS of 2", x.height(0, 2, 1), -1);
        kit.due("TURNS of 3", x.height(0, 3, 1), -1);
        kit.due("MOST of 3", x.height(0, 3, 2), 0);
        kit.due("ROUGH", x.picture(0, 11), 1);
        kit.due("SURE", x.picture(0, 12), 3);
        kit.due("MEND", x.picture(0, 10), 0);
        // Two vortices beside one another, of unlike kinds: a leap at what they share.
        FringeBench y = Kit.withPictures("size 3 2;phase 0 0 100 0 300 200 300;");
        kit.due("one and the other", y.picture(0, 5) * 10 + y.picture(0, 6), 11);
        kit.due("COST of both", y.picture(0, 7), 1);
        kit.due("LEAP at what they share", Math.abs(y.differ(0, 1, 4, true)), 1);
        kit.due("ROUGH of both", y.picture(0, 11), 1);
        kit.due("MEND of both", y.picture(0, 10), 1);
        kit.due("SURE of both", y.picture(0, 12), 6);
    }

    // promise 7
    private void pixels() {
        FringeBench x = Kit.withPictures("step 0 4 11;step 1 4 22;step 2 4 33;step 3 4 20;weight 4 7;hole 4;phase 0 17;hole 0;");
        int[] four = {11, 22, 33, 20, 7, 24, 109, 1};
        int[] none = {0, 0, 0, 0, 1, 0, 17, 1};
        four[6] = 100 + 100 * 22 / 24;
        for (int what = 0; what <= 7; what++) {
            kit.due("pixel 4, " + what, x.pixel(0, 4, what), four[what]);
            kit.due("pixel 0, " + what, x.pixel(0, 0, what), none[what]);
        }
        kit.due("no phase", x.pixel(0, 1, 6), NONE);
        kit.due("no hole", x.pixel(0, 1, 7), 0);
        kit.due("what 8", x.pixel(0, 0, 8), -2);
        kit.due("what -1", x.pixel(0, 0, -1), -2);
        kit.due("pixel 9", x.pixel(0, 9, 0), -2);
        kit.due("pixel -1", x.pixel(0, -1, 0), -2);
        kit.due("picture 1", x.pixel(1, 0, 0), -2);
        kit.due("picture -1", x.pixel(-1, 0, 0), -2);
    }

    private void phaseIs(int s0, int s1, int s2, int s3, int contrast, int phase) {
        FringeBench x = Kit.withPictures("step 0 8 " + s0 + ";step 1 8 " + s1 + ";step 2 8 " + s2 + ";step 3 8 " + s3 + ";");
        String what = s0 + " " + s1 + " " + s2 + " " + s3;
        kit.due(what + " contrast", x.pixel(0, 8, 5), contrast);
        kit.due(what + " phase", x.pixel(0, 8, 6), phase);
        kit.due(what + " there", x.picture(0, 3), phase == NONE ? 0 : 1);
    }

    private void phasesBySums() {
        phaseIs(1, 0, 0, 0, 1, 0);
        phaseIs(2, 1, 0, 0, 3, 33);
        phaseIs(1, 99, 0, 0, 100, 99);
        phaseIs(0, 1, 0, 0, 1, 100);
        phaseIs(0, 2, 1, 0, 3, 133);
        phaseIs(0, 1, 2, 0, 3, 166);
        phaseIs(0, 0, 1, 0, 1, 200);
        phaseIs(0, 0, 2, 1, 3, 233);
        phaseIs(0, 0, 1, 2, 3, 266);
        phaseIs(0, 0, 0, 1, 1, 300);
        phaseIs(1, 0, 0, 2, 3, 333);
        phaseIs(2, 0, 0, 1, 3, 366);
        phaseIs(99, 0, 0, 1, 100, 399);
        phaseIs(99, 99, 0, 0, 198, 50);
        phaseIs(50, 30, 50, 30, 0, NONE);
        FringeBench x = Kit.withPictures("step 0 0 3 4 5;least 4;phase 0 7;");
        kit.due("told, below LEAST", x.pixel(0, 0, 6), 7);
        kit.due("at LEAST", x.pixel(0, 1, 6), 0);
        kit.due("all that are THERE", x.picture(0, 3), 3);
        Kit.put(x, "step 0 0 3 4 5;least 5;");
        x.text(0, 0);
        kit.due("below LEAST", x.pixel(0, 1, 6), NONE);
        kit.due("above LEAST", x.picture(0, 3), 1);
    }

    // promise 8
    private void heights() {
        FringeBench x = Kit.withPictures(VORTEX, RAMP, "phase 0 5 6;hole 1;phase 2 390 0 0 10;");
        int[][] vortex = {
            {0, 0, 0, 0, 0}, {0, -1, 0, -300, 100}, {0, -1, 0, -100, -100}, {0, -1, 0, -200, 200}};
        for (int pixel = 0; pixel < 4; pixel++) {
            for (int what = 0; what <= 4; what++) {
                kit.due("vortex " + pixel + ", " + what, x.height(0, pixel, what), vortex[pixel][what]);
            }
        }
        int[] ramp = {0, 150, 300, 450, 600};
        for (int pixel = 0; pixel < 10; pixel++) {
            kit.due("ramp " + pixel, x.height(1, pixel, 3), ramp[pixel % 5]);
            kit.due("ramp walked " + pixel, x.height(1, pixel, 4), ramp[pixel % 5]);
            kit.due("ramp turns " + pixel, x.height(1, pixel, 1), ramp[pixel % 5] / 400);
        }
        // The third one: 5 hole 390 / 0 0 10: one part, from 0 over 3, 4, 5 to 2.
        kit.due("part of 2", x.height(2, 2, 0), 0);
        kit.due("turns of 2", x.height(2, 2, 1), -1);
        kit.due("height of 2", x.height(2, 2, 3), -10);
        kit.due("a hole", x.height(2, 1, 3), NO_HEIGHT);
        kit.due("without phase", x.height(2, 6, 3), NO_HEIGHT);
        kit.due("pixel 9", x.height(2, 9, 3), NO_HEIGHT);
        kit.due("pixel -1", x.height(2, -1, 3), NO_HEIGHT);
        kit.due("picture 3", x.height(3, 0, 3), NO_HEIGHT);
        kit.due("what 5", x.height(0, 0, 5), NO_HEIGHT);
        kit.due("what -1", x.height(0, 0, -1), NO_HEIGHT);
    }

    // promise 9
    private void differences() {
        FringeBench x = Kit.withPictures("phase 0 0 200 399 100 250;hole 5;phase 5 1;", VORTEX);
        kit.due("200 goes down", x.differ(0, 0, 1, false), -200);
        kit.due("and back up", x.differ(0, 1, 0, false), 200);
        kit.due("199", x.differ(0, 1, 2, false), 199);
        kit.due("-199", x.differ(0, 2, 1, false), -199);
        kit.due("down", x.differ(0, 0, 3, false), 100);
        kit.due("up", x.differ(0, 4, 1, false), -50);
        kit.due("not beside", x.differ(0, 0, 2, false), NO_HEIGHT);
        kit.due("across", x.differ(0, 0, 4, false), NO_HEIGHT);
        kit.due("over the edge", x.differ(0, 2, 3, false), NO_HEIGHT);
        kit.due("itself", x.differ(0, 1, 1, false), NO_HEIGHT);
        kit.due("a hole", x.differ(0, 4, 5, false), NO_HEIGHT);
        kit.due("no phase", x.differ(0, 6, 7, true), NO_HEIGHT);
        kit.due("pixel 9", x.differ(0, 6, 9, false), NO_HEIGHT);
        kit.due("pixel -1", x.differ(0, -1, 0, false), NO_HEIGHT);
        kit.due("picture 2", x.differ(2, 0, 1, false), NO_HEIGHT);
        kit.due("LEAP", x.differ(1, 0, 1, true), -1);
        kit.due("LEAP back", x.differ(1, 1, 0, true), 1);
        kit.due("no LEAP", x.differ(1, 0, 2, true), 0);
    }

    // promise 10
    private void fours() {
        FringeBench x = Kit.withPictures("phase 0 0 100 0 300 200 300 0 100 0;", VORTEX + "hole 2;");
        kit.due("0, 0", x.four(0, 0, 0), 1);
        kit.due("1, 0", x.four(0, 1, 0), -1);
        kit.due("0, 1", x.four(0, 0, 1), -1);
        kit.due("1, 1", x.four(0, 1, 1), 1);
        kit.due("2, 0", x.four(0, 2, 0), -2);
        kit.due("0, 2", x.four(0, 0, 2), -2);
        kit.due("-1, 0", x.four(0, -1, 0), -2);
        kit.due("0, -1", x.four(0, 0, -1), -2);
        kit.due("greatest", x.four(0, Integer.MAX_VALUE, Integer.MAX_VALUE), -2);
        kit.due("picture 2", x.four(2, 0, 0), -2);
        kit.due("a hole", x.four(1, 0, 0), -2);
    }

    // promise 11
    private void parts() {
        // 0 . 350 / 150 . 10 / . 5 .: three parts, the last one pixel 7 alone.
        FringeBench x = Kit.withPictures("phase 0 0;phase 2 350 150;phase 5 10;phase 7 5;");
        kit.due("PARTS", x.picture(0, 4), 3);
        int[][] parts = {{2, 0, 0, 150, 150}, {2, 2, 350, 410, 60}, {1, 7, 5, 5, 0}};
        for (int part = 0; part < 3; part++) {
            for (int what = 0; what <= 4; what++) {
                kit.due("part " + part + ", " + what, x.part(0, part, what), parts[part][what]);
            }
        }
        kit.due("part of 5", x.height(0, 5, 0), 1);
        kit.due("part 3", x.part(0, 3, 0), NO_HEIGHT);
        kit.due("part -1", x.part(0, -1, 0), NO_HEIGHT);
        kit.due("what 5", x.part(0, 0, 5), NO_HEIGHT);
        kit.due("what -1", x.part(0, 0, -1), NO_HEIGHT);
        kit.due("picture 1", x.part(1, 0, 0), NO_HEIGHT);
    }

    // promise 12
    private void planes() {
        FringeBench x = Kit.withPictures("size 2 2;phase 0 0 10 20 34;", "size 2 2;phase 0 3 10;phase 3 30;", "phase 0 1 2 3;");
        // n 4, X 2, Y 2, XX 2, XY 1, YY 2: D is 4 * 3 - 2 * 2 - 2 * 2. The plane is -1 + 12 x + 22 y,
        // off by 1 at each pixel.
        long[] plane = {-4, 48, 88, 4, 16};
        for (int what = 0; what <= 4; what++) {
            kit.due("plane, " + what, x.plane(0, 0, what), plane[what]);
        }
        long[] exact = {3, 7, 20, 1, 0};
        for (int what = 0; what <= 4; what++) {
            kit.due("exact plane, " + what, x.plane(1, 0, what), exact[what]);
            kit.due("a row, " + what, x.plane(2, 0, what), Long.MIN_VALUE);
        }
        kit.due("what 5", x.plane(0, 0, 5), Long.MIN_VALUE);
        kit.due("what -1", x.plane(0, 0, -1), Long.MIN_VALUE);
        kit.due("part 1", x.plane(0, 1, 0), Long.MIN_VALUE);
        kit.due("part -1", x.plane(0, -1, 0), Long.MIN_VALUE);
        kit.due("picture 3", x.plane(3, 0, 0), Long.MIN_VALUE);
    }

    // promise 13
    private void outs() {
        FringeBench x = Kit.withPictures(VORTEX, "size 3 2;phase 0 0 100 0 300 200 300;hole 2;");
        kit.due("without 0", x.out(0, 0, false), 0);
        kit.due("without 3", x.out(0, 3, false), 0);
        // Heights are 0 -300 -100 -200; without 0: 1 at 100, 3 at 200, 2 at 300, as now against 1.
        kit.due("others without 0", x.out(0, 0, true), 0);
        // Without 3: 1 at 100 (now -300), 2 at -100 (now -100).
        kit.due("others without 3", x.out(0, 3, true), 1);
        // Without 2: 1 at 100, 3 at 200, both otherwise.
        kit.due("others without 2", x.out(0, 2, true), 2);
        kit.due("not there", x.out(1, 2, false), NONE);
        kit.due("pixel 4", x.out(0, 4, false), NONE);
        kit.due("pixel -1", x.out(0, -1, true), NONE);
        kit.due("picture 2", x.out(2, 0, false), NONE);
        kit.due("the cost stays", x.picture(0, 7), 1);
        kit.due("the heights stay", x.height(0, 1, 3), -300);
    }

    // promise 14
    private void heavies() {
        FringeBench x = Kit.withPictures("size 2 2;phase 0 0 100 300 200;weight 0 9;weight 1 9;weight 2 9;weight 3 9;",
                "size 3 2;phase 0 0 100;");
        kit.due("all 9", x.picture(0, 7), 9);
        for (int weight = 1; weight <= 9; weight++) {
            kit.due("heavy " + weight, x.heavy(0, 3, weight), weight);
        }
        kit.due("it stays", x.picture(0, 7), 9);
        kit.due("0", x.heavy(0, 3, 0), NONE);
        kit.due("10", x.heavy(0, 3, 10), NONE);
        kit.due("pixel 4", x.heavy(0, 4, 1), NONE);
        kit.due("pixel -1", x.heavy(0, -1, 1), NONE);
        kit.due("picture 2", x.heavy(2, 0, 1), NONE);
        kit.due("one that is not THERE", x.heavy(1, 5, 9), 0);
    }

    // promise 15
    private void stitches() {
        FringeBench x = Kit.withPictures("phase 0 10 20 30 40 50 60 70 80 90;", "size 2 2;phase 0 1 2 4 8;", "");
        // The second one on 0, 0: 10 20 / 40 50 less 1 2 / 4 8.
        kit.due("COMMON", x.stitch(0, 1, 0, 0, 0), 4);
        kit.due("SUM", x.stitch(0, 1, 0, 0, 1), 105);
        kit.due("APART", x.stitch(0, 1, 0, 0, 2), 42 - 9);
        kit.due("COMMON at 2, 2", x.stitch(0, 1, 2, 2, 0), 1);
        kit.due("SUM at 2, 2", x.stitch(0, 1, 2, 2, 1), 89);
        kit.due("APART at 2, 2", x.stitch(0, 1, 2, 2, 2), 0);
        kit.due("SUM at -1, 0", x.stitch(0, 1, -1, 0, 1), 10 - 2 + 40 - 8);
        kit.due("SUM at 0, -1", x.stitch(0, 1, 0, -1, 1), 10 - 4 + 20 - 8);
        kit.due("COMMON at 4, 4", x.stitch(0, 1, 4, 4, 0), 0);
        kit.due("APART at -4, -4", x.stitch(0, 1, -4, -4, 2), 0);
        kit.due("the other way round", x.stitch(1, 0, 0, 0, 1), -105);
        kit.due("with itself", x.stitch(0, 0, 1, 0, 1), 60);
        kit.due("with nothing", x.stitch(0, 2, 0, 0, 0), 0);
        kit.due("dx 5", x.stitch(0, 1, 5, 0, 0), NO_HEIGHT);
        kit.due("dx -5", x.stitch(0, 1, -5, 0, 0), NO_HEIGHT);
        kit.due("dy 5", x.stitch(0, 1, 0, 5, 0), NO_HEIGHT);
        kit.due("dy -5", x.stitch(0, 1, 0, -5, 0), NO_HEIGHT);
        kit.due("what 3", x.stitch(0, 1, 0, 0, 3), NO_HEIGHT);
        kit.due("what -1", x.stitch(0, 1, 0, 0, -1), NO_HEIGHT);
        kit.due("picture 3", x.stitch(0, 3, 0, 0, 0), NO_HEIGHT);
        kit.due("picture -1", x.stitch(-1, 0, 0, 0, 0), NO_HEIGHT);
    }

    // promise 16
    private void bests() {
        FringeBench x = Kit.withPictures("phase 0 10 25 30 47 50 68 70 81 95;", "size 2 2;phase 0 50 68 81 95;", "size 2 2;phase 0 5;");
        kit.due("dx", x.best(0, 1, false), 1);
        kit.due("dy", x.best(0, 1, true), 1);
        kit.due("none with 2 COMMON", x.best(0, 2, false), -9);
        kit.due("none with 2 COMMON, down", x.best(0, 2, true), -9);
        kit.due("picture 3", x.best(0, 3, false), -9);
        kit.due("picture -1", x.best(-1, 0, true), -9);
        FringeBench y = Kit.withPictures("phase 0 0 0 0 0 0 0 0 0 0;", "size 2 2;phase 0 5 5 5 5;");
        kit.due("the most COMMON: least dx", y.best(0, 1, false), 0);
        kit.due("the most COMMON: least dy", y.best(0, 1, true), 0);
        kit.due("second on first: least dx", y.best(1, 0, false), -1);
        kit.due("second on first: least dy", y.best(1, 0, true), -1);
        FringeBench z = Kit.withPictures("size 2 2;phase 0 0 10;", "size 5 5;phase 2 10 20;phase 10 0 10;");
        kit.due("dx of the least dy", z.best(0, 1, false), 0);
        kit.due("the least dy", z.best(0, 1, true), -2);
    }

    // promise 17
    private void flats() {
        FringeBench x = Kit.withPictures("size 3 2;phase 0 1 2 4 8 16 32;", "phase 0 10 20 30 40 50 60;", "phase 0 100 110 121 130 140;");
        // Row 0, x 0: S 5, 40, 221; x 1: 4, 40, 220. Row 1, x 1: 32, 100, 280.
        kit.due("A at 0", x.flat(0, 1, 2, 0, 0, 0), 5 + 40 - 221);
        kit.due("B at 0", x.flat(0, 1, 2, 0, 0, 1), 5 + 221 - 40);
        kit.due("C at 0", x.flat(0, 1, 2, 0, 0, 2), 40 + 221 - 5);
        kit.due("A at 2", x.flat(0, 1, 2, 0, 2, 0), 5 + 40 - 221);
        kit.due("A in the middle", x.flat(0, 1, 2, 0, 1, 0), 4 + 40 - 220);
        kit.due("row 1", x.flat(0, 1, 2, 1, 1, 0), 32 + 100 - 280);
        kit.due("row 1, one is not THERE", x.flat(0, 1, 2, 1, 0, 0), NO_HEIGHT);
        kit.due("all the same", x.flat(1, 1, 1, 1, 0, 0), 100);
        kit.due("no row 2 in one", x.flat(0, 1, 1, 2, 0, 0), NO_HEIGHT);
        kit.due("row -1", x.flat(1, 1, 1, -1, 0, 0), NO_HEIGHT);
        kit.due("x 3", x.flat(1, 1, 1, 0, 3, 0), NO_HEIGHT);
        kit.due("x -1", x.flat(1, 1, 1, 0, -1, 0), NO_HEIGHT);
        kit.due("which 3", x.flat(1, 1, 1, 0, 0, 3), NO_HEIGHT);
        kit.due("which -1", x.flat(1, 1, 1, 0, 0, -1), NO_HEIGHT);
        kit.due("picture 3", x.flat(1, 1, 3, 0, 0, 0), NO_HEIGHT);
        kit.due("picture -1", x.flat(-1, 1, 1, 0, 0, 0), NO_HEIGHT);
        Kit.put(x, "size 2 3;phase 0 1 2;");
        x.text(0, 2);
        kit.due("unlike W", x.flat(0, 1, 2, 0, 0, 0), NO_HEIGHT);
    }

    // promise 18
    private void draws() {
        FringeBench x = Kit.withPictures("size 2 2;phase 2 390;", VORTEX, "hole 0;phase 0 1;");
        // Seed 0: x 12345, >>> 16 is 0; then -740551042, >>> 16 is 54236, remainder by 400 is 236.
        kit.due("390 and 236", x.drawn(0, 0, 1, 2), 226);
        int seed = 0;
        int phase = 390;
        for (int k = 1; k <= 20; k++) {
            seed = seed * 1103515245 + 12345;
            seed = seed * 1103515245 + 12345;
            phase = (phase + (seed >>> 16) % 400) % 400;
            kit.due("drawn " + k, x.drawn(0, 0, k, 2), phase);
        }
        kit.due("cost of one", x.drawn(0, 77, 9, 0), 0);
        int drawn = -5;
        int[] phases = {0, 100, 300, 200};
        for (int k = 1; k <= 20; k++) {
            drawn = drawn * 1103515245 + 12345;
            int which = (drawn >>> 16) % 4;
            drawn = drawn * 1103515245 + 12345;
            phases[which] = (phases[which] + (drawn >>> 16) % 400) % 400;
            FringeBench y = Kit.withPictures("size 2 2;phase 0 " + phases[0] + " " + phases[1] + " " + phases[2] + " " + phases[3] + ";");
            kit.due("vortex cost " + k, x.drawn(1, -5, k, 0), y.picture(0, 7));
            kit.due("vortex fours " + k, x.drawn(1, -5, k, 1), y.picture(0, 5) + y.picture(0, 6));
            kit.due("vortex phases " + k, x.drawn(1, -5, k, 2), phases[0] + phases[1] + phases[2] + phases[3]);
        }
        kit.due("nothing is changed", x.pixel(0, 2, 6), 390);
        kit.due("none is THERE", x.drawn(2, 0, 1, 0), NONE);
        kit.due("k 0", x.drawn(0, 0, 0, 0), NONE);
        kit.due("k 21", x.drawn(0, 0, 21, 0), NONE);
        kit.due("what 3", x.drawn(0, 0, 1, 3), NONE);
        kit.due("what -1", x.drawn(0, 0, 1, -1), NONE);
        kit.due("picture 3", x.drawn(3, 0, 1, 0), NONE);
    }

    // promise 19
    private void limits() {
        FringeBench x = new FringeBench();
        Kit.tell(x, 1, "cost 1;lost 20;parts 300;fours 4000;high 0005;wrong 66;cost 7;cost 8;");
        int[] numbers = {1, 20, 300, 4000, 5, 66, 7, 8};
        kit.due("limits", x.test(0, NONE, 0), 8);
        kit.due("limits, what 1", x.test(0, NONE, 1), NONE);
        for (int k = 0; k < 8; k++) {
            kit.due("kind " + k, x.test(0, k, 0), k < 6 ? k : 0);
            kit.due("number " + k, x.test(0, k, 1), numbers[k]);
            kit.due("what 2 of " + k, x.test(0, k, 2), NONE);
            kit.due("what -1 of " + k, x.test(0, k, -1), NONE);
        }
        kit.due("limit 8", x.test(0, 8, 0), NONE);
        kit.due("limit -2", x.test(0, -2, 0), NONE);
        kit.due("test 1", x.test(1, NONE, 0), NONE);
        kit.due("test -1", x.test(-1, NONE, 0), NONE);
        Kit.tell(x, 1, "");
        kit.due("no limits", x.test(1, NONE, 0), 0);
        kit.due("limit 0 of none", x.test(1, 0, 0), NONE);
    }

    private void failing(String picture, String test, int first, int many) {
        FringeBench x = Kit.withPictures(picture);
        Kit.tell(x, 1, test);
        kit.due(test + " first", x.fails(0, 0, false), first);
        kit.due(test + " many", x.fails(0, 0, true), many);
    }

    // promise 20
    private void failing() {
        String vortexAndMore = "size 4 2;phase 0 0 100;phase 4 300 200;phase 3 399;";
        failing(vortexAndMore, "cost 1;lost 3;parts 2;fours 1;high 300;wrong 2;", NONE, 0);
        failing(vortexAndMore, "cost 0;", 0, 1);
        failing(vortexAndMore, "lost 2;", 0, 1);
        failing(vortexAndMore, "parts 1;", 0, 1);
        failing(vortexAndMore, "fours 0;", 0, 1);
        failing(vortexAndMore, "high 299;", 0, 1);
        failing(vortexAndMore, "wrong 1;", 0, 1);
        failing(vortexAndMore, "cost 1;lost 9;parts 1;cost 9;high 0;", 2, 2);
        failing(vortexAndMore, "", NONE, 0);
        failing("", "high 0;parts 0;lost 8;", 2, 1);
        FringeBench x = Kit.withPictures("");
        kit.due("no test", x.fails(0, 0, false), NONE);
        kit.due("no test, many", x.fails(0, 0, true), NONE);
        Kit.tell(x, 1, "lost 0;");
        kit.due("no picture", x.fails(1, 0, true), NONE);
        kit.due("picture -1", x.fails(-1, 0, true), NONE);
        kit.due("test -1", x.fails(0, -1, true), NONE);
        kit.due("lost", x.fails(0, 0, true), 1);
    }

    // promise 21
    private void rounds() {
        FringeBench x = Kit.withPictures("phase 0 0 50 100 350 0 150 300 250 200;hole 4;", "phase 0 0 100 0 300 200 300 0 100 0;");
        kit.due("round a hole", x.round(0, 0, 0, 2, 2), 1);
        kit.due("on the hole", x.round(0, 0, 0, 1, 1), -100);
        kit.due("all fours together", x.round(1, 0, 0, 2, 2), 0);
        kit.due("two of them", x.round(1, 0, 0, 2, 1), 0);
        kit.due("one of them", x.round(1, 1, 1, 1, 1), 1);
        kit.due("w 0", x.round(1, 0, 0, 0, 1), -100);
        kit.due("h 0", x.round(1, 0, 0, 1, 0), -100);
        kit.due("w 3", x.round(1, 0, 0, 3, 1), -100);
        kit.due("h 3", x.round(1, 0, 0, 1, 3), -100);
        kit.due("x 1, w 2", x.round(1, 1, 0, 2, 1), -100);
        kit.due("x -1", x.round(1, -1, 0, 1, 1), -100);
        kit.due("y -1", x.round(1, 0, -1, 1, 1), -100);
        kit.due("greatest", x.round(1, 1, 1, Integer.MAX_VALUE, Integer.MAX_VALUE), -100);
        kit.due("least", x.round(1, 0, 0, Integer.MIN_VALUE, Integer.MIN_VALUE), -100);
        kit.due("picture 2", x.round(2, 0, 0, 1, 1), -100);
        kit.due("picture -1", x.round(-1, 0, 0, 1, 1), -100);
    }

    // promise 22
    private void pairs() {
        FringeBench x = Kit.withPictures(VORTEX, "phase 0 0 100 0 300 200 300 0 100 0;", "size 4 3;phase 0 0 100 100 0 300 200 200 300 0 0 0 0;");
        kit.due("with the edge", x.paired(0), 1);
        kit.due("two by two", x.paired(1), 2);
        kit.due("picture 3", x.paired(3), NONE);
        kit.due("picture -1", x.paired(-1), NONE);
        Kit.put(x, "");
        x.text(0, 0);
        kit.due("without fours", x.paired(0), 0);
        // In the midst of 5 by 5 alone, 2 from the edge.
        FringeBench y = Kit.withPictures("size 5 5;phase 6 0 100;phase 11 300 200;", "size 5 5;phase 12 0 100;phase 17 300 200;");
        // All 16 fours, 8 of each kind, each beside one of the other kind.
        String all = "0 100 0 100 0 300 200 300 200 300 ";
        FringeBench z = Kit.withPictures("size 5 5;phase 0 " + all + all + "0 100 0 100 0;");
        kit.due("all that are 1", z.picture(0, 5), 8);
        kit.due("all that are -1", z.picture(0, 6), 8);
        kit.due("all 16", z.paired(0), 8);
        kit.due("1, 1", y.paired(0), 2);
        kit.due("2, 2", y.paired(1), 2);
    }

    // promise 23
    private void aboves() {
        FringeBench x = Kit.withPictures(RAMP);
        kit.due("above 0", x.above(0, 0), 8);
        kit.due("above -1", x.above(0, -1), 10);
        kit.due("above 450", x.above(0, 450), 2);
        kit.due("above 449", x.above(0, 449), 4);
        kit.due("above 600", x.above(0, 600), 0);
        kit.due("above the least", x.above(0, Integer.MIN_VALUE), 10);
        kit.due("above the greatest", x.above(0, Integer.MAX_VALUE), 0);
        kit.due("picture 1", x.above(1, 0), NONE);
        kit.due("picture -1", x.above(-1, 0), NONE);
    }

    // promise 24
    private void fringes() {
        FringeBench x = Kit.withPictures(RAMP, "size 2 2;phase 0 10 390;");
        kit.due("by 400", x.fringes(0, 400), 2);
        kit.due("by 150", x.fringes(0, 150), 8);
        kit.due("by 9999", x.fringes(0, 9999), 0);
        kit.due("by 1", x.fringes(0, 1), 8);
        kit.due("10 and -10, by 9999", x.fringes(1, 9999), 1);
        kit.due("by 0", x.fringes(0, 0), NONE);
        kit.due("by -1", x.fringes(0, -1), NONE);
        kit.due("by 10000", x.fringes(0, 10000), NONE);
        kit.due("picture 2", x.fringes(2, 1), NONE);
    }

    // promise 25
    private void toughs() {
        FringeBench x = Kit.withPictures(VORTEX, "size 2 2;phase 0 0 100 300;", "size 2 2;phase 0 0 10 0 0;");
        // From 0 to 2 it is -100 at first (300), -200 at 100 more, 199 at 101 more: the four closes.
        kit.due("vortex 0", x.tough(0, 0), 101);
        kit.due("a chain", x.tough(1, 0), NONE);
        kit.due("not THERE", x.tough(1, 3), NONE);
        kit.due("pixel 4", x.tough(0, 4), NONE);
        kit.due("pixel -1", x.tough(0, -1), NONE);
        kit.due("picture 3", x.tough(3, 0), NONE);
        // 1 at 10 + 190: from 0 to it 200 becomes -200; from it to 3 -200 stays.
        kit.due("10 of zeros", x.tough(2, 1), 190);
    }

    // promise 26
    private void dims() {
        FringeBench x = Kit.withPictures("size 2 2;step 0 0 10 0 0 0;step 1 1 20 0 0;step 2 3 30;step 3 2 40;phase 0 0;");
        // Contrasts 10 (told), 20 at 100, 40 at 300, 30 at 200.
        kit.due("all", x.dim(0, 1, 0), 4);
        kit.due("all, PARTS", x.dim(0, 1, 1), 1);
        kit.due("all, COST", x.dim(0, 1, 2), 1);
        kit.due("20", x.dim(0, 20, 2), 1);
        kit.due("21, THERE", x.dim(0, 21, 0), 3);
        kit.due("21, COST", x.dim(0, 21, 2), 0);
        kit.due("31, THERE", x.dim(0, 31, 0), 2);
        kit.due("31, PARTS", x.dim(0, 31, 1), 1);
        kit.due("198, THERE: told", x.dim(0, 198, 0), 1);
        kit.due("LEAST is as it was", x.picture(0, 2) * 10 + x.picture(0, 3), 14);
        kit.due("0", x.dim(0, 0, 0), NONE);
        kit.due("199", x.dim(0, 199, 0), NONE);
        kit.due("what 3", x.dim(0, 1, 3), NONE);
        kit.due("what -1", x.dim(0, 1, -1), NONE);
        kit.due("picture 1", x.dim(1, 1, 0), NONE);
    }

    // promise 27
    private void solids() {
        FringeBench x = Kit.withPictures("phase 0 0 0 0 0 0 0 0 0 0;weight 1 5;weight 4 2;weight 7 5;weight 8 9;hole 6;");
        int[] parts = {1, 1, 2, 2, 2, 1, 1, 1, 1};
        for (int w = 1; w <= 9; w++) {
            kit.due("solid " + w, x.solid(0, w), parts[w - 1]);
        }
        kit.due("PARTS are as they were", x.picture(0, 4), 1);
        kit.due("0", x.solid(0, 0), NONE);
        kit.due("10", x.solid(0, 10), NONE);
        kit.due("picture 1", x.solid(1, 1), NONE);
        kit.due("picture -1", x.solid(-1, 1), NONE);
    }

    // promise 28
    private void counts() {
        FringeBench x = Kit.withPictures("", "");
        Kit.tell(x, 1, "");
        kit.due("pictures", x.count(0), 2);
        kit.due("tests", x.count(1), 1);
        kit.due("sort 2", x.count(2), -2);
        kit.due("sort -1", x.count(-1), -2);
    }

    // promises 29 and 30
    private void images() {
        FringeBench x = Kit.withPictures(VORTEX);
        Kit.tell(x, 1, "cost 4;");
        Kit.tell(x, 0, "size 1 1;");
        Kit.put(x, "size 5 5;");
        kit.due("image 0", x.image(0), true);
        kit.due("image 3", x.image(3), false);
        kit.due("image -1", x.image(-1), false);
        kit.due("again 1", x.again(1), false);
        kit.due("again 3", x.again(3), false);
        kit.due("again -1", x.again(-1), false);
        kit.due("the tape is still there", x.text(0, NONE), 1);
        Kit.put(x, RAMP);
        x.text(0, 0);
        Kit.put(x, "");
        x.text(1, 0);
        kit.due("otherwise now", x.picture(0, 7), 0);
        kit.due("image 2", x.image(2), true);
        kit.due("again 0", x.again(0), true);
        kit.due("one picture", x.count(0), 1);
        kit.due("its cost", x.picture(0, 7), 1);
        kit.due("its heights", x.height(0, 1, 3), -300);
        kit.due("the limit", x.test(0, 0, 1), 4);
        kit.due("the fault", x.fault(0), 2);
        kit.due("its place", x.fault(1), 5);
        kit.due("the tape", x.text(0, NONE), 1);
        kit.due("what was on it", x.picture(1, 0), 5);
        kit.due("again 2", x.again(2), true);
        kit.due("two pictures", x.count(0), 2);
        kit.due("no cost", x.picture(0, 7), 0);
        kit.due("no limits", x.test(0, NONE, 0), 0);
        kit.due("an empty tape", x.end(1), NONE);
        kit.due("again 0 once more", x.again(0), true);
        kit.due("the tape once more", x.end(9), 9);
    }

    private void manyCalls() {
        FringeBench x = Kit.withPictures("size 5 5;phase 0 0 250 90 340 180 10 260 100 350 190 20 270 110 360 200 30 280 120 370 210 40 290 130 380 220;");
        int mend = x.picture(0, 10);
        for (int call = 0; call < 500; call++) {
            kit.due("call " + call, x.picture(0, 10), mend);
        }
    }
}
