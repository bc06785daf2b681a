import java.lang.management.ManagementFactory;

/**
 * All calls of a run live in one room: the rows are made with the object, and a call makes nothing but
 * the exception that it throws. Counted by the bytes that the thread has taken.
 */
public final class RoomTest {
    private static final Check CHECK = new Check();
    private static final com.sun.management.ThreadMXBean THREADS =
        (com.sun.management.ThreadMXBean) ManagementFactory.getThreadMXBean();

    private RoomTest() {
    }

    private static long taken() {
        return THREADS.getThreadAllocatedBytes(Thread.currentThread().getId());
    }

    public static void main(String[] args) {
        String text = "deed 0 0 0 0 0 0 0 0;deed 0 9 0 9 0 9 0 9;deed 0 0 0 0 0 0 0 0;deed 0 0 0 0;stile 0 0;stile 1 0;stile 2 3;"
            + "person 0 7 1 to 3 3;person 0 0 1 to 2 7;person 1 1 2 to 0 0;person 3 0 1 to 0 0;person 2 2 2 to 1 0;person 0 0 0;"
            + "goes 1+2*(pace-steps) or far<with and not met=day;fades day/9=ink and not (with or place<deed);";
        CHECK.isTrue("the text is not too long", text.length() <= 700);
        new MarginWays();
        long before = taken();
        MarginWays x = new MarginWays();
        long made = taken() - before;
        CHECK.isTrue("a new object takes " + made + " bytes", made < 100_000);
        int[] numbers = numbersOf(text);
        // once ahead, so that what the machine itself makes at first is not counted
        all(x, numbers);
        before = taken();
        all(x, numbers);
        long calls = taken() - before;
        CHECK.isTrue("the calls take " + calls + " bytes", calls < 1_000);
        CHECK.end("RoomTest");
    }

    private static int[] numbersOf(String text) {
        int[] numbers = new int[(text.length() + 19) / 20 * 5];
        for (int i = 0; i < 4 * numbers.length; i++) {
            numbers[i / 4] = numbers[i / 4] << 8 | (i < text.length() ? text.charAt(i) : ' ');
        }
        return numbers;
    }

    private static void all(MarginWays x, int[] numbers) {
        for (int i = 0; i < numbers.length; i += 5) {
            x.feed(numbers[i], numbers[i + 1], numbers[i + 2], numbers[i + 3], numbers[i + 4]);
        }
        CHECK.same("the text", x.cellar(4 * numbers.length), 0);
        x.see(0, 3, 20);
        for (int what = 0; what < 14; what++) {
            x.count(what);
        }
        x.days(2);
        x.type(0, 1);
        x.stile(1, true);
        x.send(0, 0);
        x.let(0, 1);
        x.image();
        x.restore();
        for (int i = 0; i < 5; i++) {
            x.undo();
        }
        x.then(0, 60, 0);
        x.comes(0);
        x.meet(0, 1);
        x.later(60, 0);
        x.clear(11);
        for (int what = 0; what < 4; what++) {
            x.way(0, 33, what);
        }
        x.reached(0, 0);
        x.farthest(0, 0);
        x.gather(0);
        x.errands(0);
        x.errand(5);
        x.quick(0);
        x.look(0);
        x.candles(0, 5, 5);
        x.game(0, 1, 0);
        x.years(7, 60, 0);
        x.ahead(60, 0);
        x.ways(0, 33);
        x.near(0);
        x.gone(0, 60);
        x.person(0, 4);
        x.deed(0, 4);
        x.forget();
    }
}
