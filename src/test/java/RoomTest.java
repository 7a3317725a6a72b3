import java.lang.management.ManagementFactory;

/** No call but one that throws makes objects, so that many calls live in one room; and none takes long. */
public final class RoomTest {
    private static final long MOST_BYTES_OF_AN_OBJECT = 16000;
    private static final long MOST_BYTES_OF_CALLS = 4000;

    public static void main(String[] args) {
        com.sun.management.ThreadMXBean threads = (com.sun.management.ThreadMXBean) ManagementFactory.getThreadMXBean();
        long id = Thread.currentThread().getId();
        use(new LockLetters(), 3);
        long start = threads.getThreadAllocatedBytes(id);
        LockLetters x = new LockLetters();
        long made = threads.getThreadAllocatedBytes(id);
        use(x, 8);
        long used = threads.getThreadAllocatedBytes(id);
        System.out.println("room: " + (made - start) + " bytes an object, " + (used - made) + " bytes of its calls");
        if (made - start > MOST_BYTES_OF_AN_OBJECT || used - made > MOST_BYTES_OF_CALLS) {
            System.exit(1);
        }
    }

    private static void say(LockLetters x, int... signs) {
        x.end(0);
        for (int sign : signs) {
            x.sign(sign);
        }
    }

    private static void use(LockLetters x, int times) {
        // 90.;90!;25.;09!;43.;60.
        say(x, 0x39302E3B, 0x3930213B, 0x32352E3B, 0x3039213B, 0x34332E3B, 0x36302E00);
        x.end(23);
        x.basins();
        // 01g;12w;23s;34g;45w;50s;02g;13s
        say(x, 0x3031673B, 0x3132773B, 0x3233733B, 0x3334673B, 0x3435773B, 0x3530733B, 0x3032673B, 0x31337300);
        x.end(31);
        x.sluices();
        for (int i = 0; i < times; i++) {
            // ((a-b)*2+n)/(1+t)+s-s
            say(x, 0x2828612D, 0x62292A32, 0x2B6E292F, 0x28312B74, 0x292B732D, 0x73000000);
            x.end(21);
            x.rule();
            say(x, 0x6E316C30, 0x31700000);
            x.end(5);
            x.night();
            x.law();
            x.hours(60);
            x.pours(0, 1);
            x.lets(1, 1);
            x.boats(2);
            x.sticks(3);
            x.marks(4, i % 10);
            x.undo();
            x.later(0, 99);
            x.marked(0);
            x.round();
            x.still();
            x.busiest(99);
            x.high(99);
            x.table(0, 1, 2, 40);
            x.quarters(6, 40);
            x.learns(0, 1, 2, 6);
            x.words(0, 1, 40);
            x.hears(0, 40);
            x.drought(0, 1, 40);
            x.saw(0, 20, 0);
            x.fits();
            x.looks();
            x.forget();
            x.looks();
            x.needs(0, 40);
            x.reach(0);
            x.way(0, 5);
            x.cut(0, 5);
            x.ring();
            x.order();
            x.locks(20, 20);
            x.spoils(12, 6, 3);
            x.rests(20);
            x.years(i, 60);
            x.keep(0);
            x.again(0);
            x.count(4);
            x.row(0);
            x.sheet(2, 6, 1, 1);
            x.basin(0, 3);
            x.sluice(0, 5);
        }
    }
}
