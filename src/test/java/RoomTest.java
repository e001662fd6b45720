import java.lang.management.ManagementFactory;

/** The room: what an object and its calls make, counted in bytes, stays far below 7.3 million elements. */
public final class RoomTest {
    private static final com.sun.management.ThreadMXBean BEAN =
        (com.sun.management.ThreadMXBean) ManagementFactory.getThreadMXBean();

    private static long made() {
        return BEAN.getThreadAllocatedBytes(Thread.currentThread().getId());
    }

    public static void main(String[] args) {
        calm();
        dearest();
        Check.end();
    }

    /** The widest book that could be thought of: hubs, every THING to be had and lost, wounds and healing. */
    private static String wide() {
        StringBuilder t = new StringBuilder("health 9;part go1go2go3go4go5go6;");
        for (int i = 0; i < 5; i++) {
            t.append("part take").append(i).append(" go0go6go12go18;");
        }
        t.append("part go7go8go9go10go11go12;part take5go0go12;part take6go0go12;part take7go0go12;");
        t.append("part hurt1go0go12;part heal1go0go12;part go13go14go15go16go17go18;");
        for (int i = 0; i < 5; i++) {
            t.append("part drop").append(i).append(" go0go6;");
        }
        return t.append("part go19go20go21go22go23;part drop5go0go12;part drop6go0go12;part drop7go0go12;")
            .append("part roll2 22 0;part win;").toString();
    }

    private static int ask(ChoiceBook x, int i) {
        return switch (i % 16) {
            case 0 -> x.count(5);
            case 1 -> x.odds(60);
            case 2 -> x.advice(7);
            case 3 -> x.fewest();
            case 4 -> x.surely();
            case 5 -> x.parts(1);
            case 6 -> x.parts(2);
            case 7 -> x.things(1);
            case 8 -> x.without(i % 8, 60);
            case 9 -> x.shuffle(5, 99);
            case 10 -> x.blind(99);
            case 11 -> x.keep(0);
            case 12 -> x.goBack(0);
            case 13 -> x.link(0, 18, -1, -1);
            case 14 -> x.unlink(0, 5);
            default -> x.flips(10);
        };
    }

    private static void calm() {
        long before = made();
        ChoiceBook x = Check.told("part go 1 go 2;part take 0 go 0;part go 3 with 0;part win;");
        x.begin();
        for (int i = 0; i < 480; i++) {
            ask(x, i);
        }
        long elements = (made() - before) / 4;
        Check.due("a small book: " + elements + " elements", elements < 60000 ? 1 : 0, 1);
    }

    private static void dearest() {
        long before = made();
        ChoiceBook x = Check.told(wide());
        x.begin();
        Check.due("STATES of the wide book", x.count(5) > 30000 ? 1 : 0, 1);
        int asked = 0;
        for (int i = 0; i < 96; i++) {
            asked += ask(x, i) < -1000000 ? 1 : 0;
        }
        Check.due("none refused but a seventh CHOICE", asked, 1);
        long elements = (made() - before) / 4;
        Check.due("the widest book: " + elements + " elements", elements < 2000000 ? 1 : 0, 1);
        long behind = made();
        for (int i = 0; i < 32; i++) {
            ask(x, i);
        }
        Check.due("nothing more is made when asked again", (made() - behind) / 4 < 20000 ? 1 : 0, 1);
    }
}
