/** What the tests share: counting the answers that are not as due, and saying a whole play. */
final class Check {
    private int wrong = 0;
    private int asked = 0;

    void due(String call, int got, int want) {
        asked++;
        if (got != want) {
            wrong++;
            System.out.println(call + " answered " + got + ", due is " + want);
        }
    }

    void that(String what, boolean holds) {
        due(what, holds ? 1 : 0, 1);
    }

    void end() {
        System.out.println(wrong == 0 ? "all " + asked + " answers are as due" : wrong + " of " + asked + " are not as due");
        if (wrong != 0) {
            System.exit(1);
        }
    }

    static StageCount say(StageCount x, String play) {
        x.wipe();
        for (int i = 0; i < play.length(); i++) {
            x.say(play.charAt(i));
        }
        return x;
    }

    static StageCount stage(String play) {
        return say(new StageCount(), play);
    }
}
