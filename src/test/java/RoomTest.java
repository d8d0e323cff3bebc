import java.lang.management.ManagementFactory;
import java.util.function.Consumer;

/** What a run of 512 calls makes: rows are made with the object and used again, so that calls make next to nothing. */
public final class RoomTest {
    private static final long MOST_OF_AN_OBJECT = 200_000;
    private static final long MOST_OF_A_RUN = 2_000_000;
    private static final com.sun.management.ThreadMXBean THREADS =
        (com.sun.management.ThreadMXBean) ManagementFactory.getThreadMXBean();

    private RoomTest() {
    }

    private static PaneStreet fullStreet() {
        PaneStreet x = Check.streetOf("pane;pane;pane;pane;pane;pane;pane;pane;pane;fog 40");
        Check.feed(x, "walker at 0 taper 99 owns 0 heads 8;walker at 1 taper 99 owns 1;walker at 2 taper 99 owns 2;"
            + "walker at 3 taper 99 owns 3;walker at 4 taper 99 owns 4;walker at 5 taper 99 owns 5;way 7 8");
        x.street();
        Check.feed(x, "way 0 1;way 1 2;way 2 3;way 3 4;way 4 5;way 5 6;way 6 7");
        x.street();
        Check.feed(x, "kind 2 if not (owned and (misty or dark+1<oil)) or hour>12;pass if pane>7 and taper<2;cold 1");
        x.law();
        return x;
    }

    private static long bytesOf(Runnable it) {
        long before = THREADS.getThreadAllocatedBytes(Thread.currentThread().getId());
        it.run();
        return THREADS.getThreadAllocatedBytes(Thread.currentThread().getId()) - before;
    }

    private static void run(String name, Consumer<PaneStreet> call) {
        PaneStreet x = fullStreet();
        call.accept(x);
        long bytes = bytesOf(() -> {
            for (int i = 0; i < 512; i++) {
                call.accept(x);
            }
        });
        Check.due(name + " makes little (" + bytes + " bytes)", bytes <= MOST_OF_A_RUN, true);
    }

    public static void main(String[] args) {
        Check.begin("room");
        fullStreet();
        long bytes = bytesOf(PaneStreet::new);
        Check.due("an object is small (" + bytes + " bytes)", bytes <= MOST_OF_AN_OBJECT, true);
        run("hours", x -> x.hours(60));
        run("when", x -> x.pane(8, 5));
        run("why", x -> x.pane(8, 6));
        run("turn", x -> x.walker(0, 5));
        run("ring", x -> x.ring(0));
        run("out", PaneStreet::out);
        run("spoon", PaneStreet::spoon);
        run("span", x -> x.span(60, true));
        run("trial", x -> x.trial(60, true));
        run("ahead", x -> x.ahead(0, 60, 2));
        run("beats", PaneStreet::beats);
        run("closed", x -> x.closed(0, 8));
        run("madeUp", PaneStreet::madeUp);
        run("sides", PaneStreet::sides);
        run("pairs", x -> x.pairs(5));
        run("share", x -> x.share(3, 999));
        run("undo", x -> {
            x.heads(0, 3);
            x.undo();
        });
        run("image", x -> {
            x.image();
            x.back();
        });
        run("round", x -> {
            x.feed(0x08070605, 0x04030201, 0, 0, 0);
            x.end(8);
            x.round(0, true);
        });
        run("ask", x -> {
            x.feed(0x01030214, 0, 0, 0, 0);
            x.end(4);
            x.ask();
        });
        run("law", x -> {
            x.feed(0x6b696e64, 0x20332069, 0x66206f69, 0x6c3c3320, 0x20202020);
            x.law();
        });
        Check.end();
    }
}
