import java.nio.charset.StandardCharsets;

/** What the tests share: telling texts to a bench, and counting the answers that are not due. */
final class Kit {
    private final String name;
    private int wrong;
    private int asked;

    Kit(String name) {
        this.name = name;
    }

    void due(String call, long got, long want) {
        asked++;
        if (got != want) {
            wrong++;
            if (wrong <= 40) {
                System.out.println(call + " answered " + got + ", due is " + want);
            }
        }
    }

    void due(String call, boolean got, boolean want) {
        due(call, got ? 1 : 0, want ? 1 : 0);
    }

    boolean isClean() {
        return wrong == 0;
    }

    void finish() {
        System.out.println(name + ": " + asked + " answers, " + wrong + " not as due");
        if (wrong != 0 || asked == 0) {
            System.exit(1);
        }
    }

    /** Puts signs (each one byte) behind the tape, without blanks that are too many. */
    static void put(FringeBench bench, String signs) {
        byte[] bytes = signs.getBytes(StandardCharsets.ISO_8859_1);
        int have = 0;
        for (int at = 0; at < bytes.length; at += 20) {
            int[] numbers = new int[5];
            for (int i = 0; i < 20; i++) {
                int sign = at + i < bytes.length ? bytes[at + i] & 255 : ' ';
                numbers[i / 4] = numbers[i / 4] << 8 | sign;
            }
            int now = bench.feed(numbers[0], numbers[1], numbers[2], numbers[3], numbers[4]);
            if (at == 0) {
                have = now - 20;
            }
        }
        if (bytes.length > 0) {
            bench.end(have + bytes.length);
        }
    }

    /** A text of a sort as a further one. */
    static int tell(FringeBench bench, int sort, String text) {
        put(bench, text);
        return bench.text(sort, FringeBench.NONE);
    }

    static FringeBench withPictures(String... texts) {
        FringeBench bench = new FringeBench();
        for (String text : texts) {
            tell(bench, 0, text);
        }
        return bench;
    }
}
