import java.lang.management.ManagementFactory;

/** All calls of one run live in one room: the calls make no object, and a stage is small. */
public final class RoomTest {
    private static final int STAGES = 200;
    private static final int ROUNDS = 500;
    private static final long MOST_OF_A_STAGE = 6000;
    /** What the virtual machine itself may need while it measures. */
    private static final long SLACK = 50000;

    private static final Check check = new Check();

    private static int answers = 0;

    public static void main(String[] args) {
        if (!(ManagementFactory.getThreadMXBean() instanceof com.sun.management.ThreadMXBean)) {
            System.out.println("this virtual machine does not tell what is allocated");
            return;
        }
        com.sun.management.ThreadMXBean bean = (com.sun.management.ThreadMXBean) ManagementFactory.getThreadMXBean();
        if (!bean.isThreadAllocatedMemorySupported() || !bean.isThreadAllocatedMemoryEnabled()) {
            System.out.println("this virtual machine does not tell what is allocated");
            return;
        }
        StageCount[] stages = new StageCount[STAGES];
        round(new StageCount());
        long ahead = bean.getCurrentThreadAllocatedBytes();
        for (int i = 0; i < STAGES; i++) {
            stages[i] = new StageCount();
        }
        long made = bean.getCurrentThreadAllocatedBytes();
        for (int i = 0; i < ROUNDS; i++) {
            round(stages[i % STAGES]);
        }
        long asked = bean.getCurrentThreadAllocatedBytes();
        check.that("a stage takes " + (made - ahead) / STAGES + " bytes", made - ahead <= STAGES * MOST_OF_A_STAGE + SLACK);
        check.that(ROUNDS + " rounds of all calls take " + (asked - made) + " bytes", asked - made <= SLACK);
        check.that("each round answers alike", answers % (ROUNDS + 1) == 0);
        check.end();
    }

    /** Every call once or more, the dearest ones with the most that they can get. */
    private static void round(StageCount x) {
        x.wipe();
        for (int part = 0; part < 8; part++) {
            x.say('A' + part);
            x.say('.');
            x.say('a' + part);
        }
        x.set(0, 2);
        x.set(1, 8);
        x.set(2, 3);
        x.may(0, 1, 1);
        for (int i = 0; i < 7; i++) {
            x.scene(37 * i);
            x.seen(i, 1);
        }
        answers += x.fault() + x.judge(2) + x.on(3) + x.lines(2) + x.broken() + x.strangers(0) + x.cuts();
        answers += x.cast(-1) + x.cast(7) + x.ill(0, 2) + x.order(-1) + x.order(3) + x.told(12);
        x.forget();
        x.wipe();
        x.say('?');
        x.say('?');
        x.say('?');
        answers += x.fits(-1) + x.fits(2) + x.could(0) + x.evening(9999, 99, 0) + x.judge(0) + x.judge(9);
        x.image(0);
        x.strike();
        x.restore(0);
    }
}
