/** What the tests share: counting the answers that are not as due, and saying a whole play. */
final class Check {
    /** Numbers to be refused nearly everywhere, and those just beside what is allowed. */
    static final int[] WIDE = {
        Integer.MIN_VALUE, Integer.MIN_VALUE + 1, -65537, -10000, -256, -40, -10, -9, -8, -7, -6, -5, -4, -3, -2, -1,
        0, 1, 2, 3, 4, 5, 6, 7, 8, 9, 10, 11, 15, 16, 17, 31, 32, 33, 39, 40, 41, 49, 50, 51, 63, 64, 65, 98, 99, 100,
        126, 127, 128, 255, 256, 257, 9999, 10000, 10001, 65535, 65536, 65537, 16777216,
        Integer.MAX_VALUE - 10, Integer.MAX_VALUE - 1, Integer.MAX_VALUE};

    private int wrong = 0;
    private int asked = 0;

    void due(String call, int got, int want) {
        asked++;
        if (got != want) {
            wrong++;
            System.out.println(call + " answered " + got + ", due is " + want);
        }
    }

    void that(String what, boolean holds) {
        due(what, holds ? 1 : 0, 1);
    }

    void end() {
        System.out.println(wrong == 0 ? "all " + asked + " answers are as due" : wrong + " of " + asked + " are not as due");
        if (wrong != 0) {
            System.exit(1);
        }
    }

    static StageCount say(StageCount x, String play) {
        x.wipe();
        for (int i = 0; i < play.length(); i++) {
            x.say(play.charAt(i));
        }
        return x;
    }

    static StageCount stage(String play) {
        return say(new StageCount(), play);
    }

    static String dots(int many) {
        return ".".repeat(many);
    }
}
