import java.lang.management.ManagementFactory;

/** What objects and calls take from the room that all calls of a run live in, counted in bytes. */
public final class RoomTest {
    /** Far below the room's 7.3 million elements, even if each had a single byte. */
    private static final long MOST = 7_000_000;
    private static int wrong = 0;

    public static void main(String[] args) {
        long before = taken();
        long little = taken() - before;
        objects(little);
        searchesAndMarks(little);
        texts(little);
        questions(little);
        if (wrong != 0) {
            System.exit(1);
        }
    }

    private static long taken() {
        com.sun.management.ThreadMXBean threads =
                (com.sun.management.ThreadMXBean) ManagementFactory.getThreadMXBean();
        return threads.getThreadAllocatedBytes(Thread.currentThread().getId());
    }

    private static void within(String what, long bytes, long most) {
        System.out.println(what + ": " + bytes + " bytes");
        if (bytes > most) {
            wrong++;
            System.out.println("that is more than " + most);
        }
    }

    private static void objects(long little) {
        new FeignedSuit();
        long from = taken();
        for (int i = 0; i < 100; i++) {
            new FeignedSuit();
        }
        within("100 objects", taken() - from - little, MOST);
    }

    private static FeignedSuit wide() {
        FeignedSuit x = new FeignedSuit();
        for (int i = 0; i < 40; i++) {
            Told.tell(x, 0, "need X or not X;give " + (char) ('A' + i % 20) + ";lend " + i % 10 + ";fee " + i);
        }
        Told.tell(x, 1, "have X");
        Told.tell(x, 2, "W");
        for (int i = 0; i < 8; i++) {
            Told.tell(x, 3, "of ABCDEFGHIJ > " + i);
        }
        for (int i = 0; i < 30; i++) {
            x.roll(0, 0);
            x.enter(i, i);
        }
        return x;
    }

    private static void searchesAndMarks(long little) {
        wide();
        long from = taken();
        FeignedSuit x = wide();
        for (int i = 0; i < 200; i++) {
            x.search(0, 0, 0, -1);
            x.go(4000);
            x.mark(i % 4);
            x.back((i + 3) % 4);
        }
        within("searches and marks", taken() - from - little, MOST);
    }

    private static void texts(long little) {
        String longest = "need A";
        while (longest.length() < 390) {
            longest = longest + (longest.length() < 240 ? "or A" : " ");
        }
        FeignedSuit x = new FeignedSuit();
        x.mark(0);
        if (Told.tell(x, 0, longest) != 0) {
            wrong++;
            System.out.println("a text with a fault takes no room");
        }
        long from = taken();
        for (int i = 0; i < 512; i++) {
            x.back(0);
            Told.tell(x, 0, longest);
        }
        within("512 texts", taken() - from - little, MOST);
    }

    private static void questions(long little) {
        FeignedSuit x = wide();
        ask(x);
        long from = taken();
        for (int i = 0; i < 20; i++) {
            ask(x);
        }
        within("questions", taken() - from - little, 2000);
    }

    private static void ask(FeignedSuit x) {
        x.reached(0, 0, 0);
        x.fewest(0, 0, 0, 0);
        x.least(0, 0, 0, 0);
        x.safe(0, 0, 0, 5);
        x.keys(0, 0, 0);
        x.last(0, 0, 0, 99);
        x.words(0, 0, 0, 7, 0);
        for (int roll = 0; roll < 30; roll++) {
            x.judged(roll, 0);
            x.feigned(roll);
            x.claims(roll, 0);
            x.risk(roll, 0);
            x.costs(roll, 0);
        }
    }
}
