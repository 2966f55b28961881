import java.lang.management.ManagementFactory;

/** 512 calls, every other one of a kind, on a graph that changes, must stay far below the room that a run has. */
public final class RoomTest {
    private static final long MOST_BYTES = 1_000_000;
    private static final long MOST_SECONDS = 60;
    private static final int TIMES = 250;

    private interface Call {
        void on(Bramblehall x, int time);
    }

    private static final com.sun.management.ThreadMXBean BEAN =
            (com.sun.management.ThreadMXBean) ManagementFactory.getThreadMXBean();

    public static void main(String[] args) {
        makes("a hall", (x, i) -> {
            if (i < 5) {
                new Bramblehall();
            }
        });
        for (char kind : "tpcbrdgq".toCharArray()) {
            makes("width " + kind, (x, i) -> x.width(kind));
        }
        for (char kind : "345bo".toCharArray()) {
            makes("hasMinor " + kind, (x, i) -> x.hasMinor(kind));
        }
        for (char kind : "fsop".toCharArray()) {
            makes("apex " + kind, (x, i) -> x.apex(kind));
        }
        makes("takeHaven", (x, i) -> x.takeHaven());
        makes("decompose", (x, i) -> x.decompose());
        makes("rings", (x, i) -> x.rings());
        makes("longest", (x, i) -> x.longest());
        makes("colourings", (x, i) -> x.colourings(9));
        makes("sets", (x, i) -> x.sets());
        makes("isTrue", (x, i) -> x.isTrue());
        makes("bounds", (x, i) -> x.lower());
        makes("red", (x, i) -> x.red());
        sevenVertices();
        Due.end();
    }

    private static void makes(String name, Call call) {
        Bramblehall x = Due.hall(10);
        measure(name, x, 10, call);
    }

    private static void sevenVertices() {
        measure("twinWidth", Due.ring(7), 7, (x, i) -> x.twinWidth());
    }

    private static void measure(String name, Bramblehall x, int n, Call call) {
        call.on(x, 0);
        long before = BEAN.getCurrentThreadAllocatedBytes();
        long began = System.nanoTime();
        for (int i = 0; i < TIMES; i++) {
            int v = i % n;
            int w = (i / n + 1 + v) % n;
            if (v != w) {
                x.edge(v, w, i < 200);
            }
            call.on(x, i);
        }
        long made = BEAN.getCurrentThreadAllocatedBytes() - before;
        Due.say(name + " made " + made + " bytes", "true", String.valueOf(made < MOST_BYTES));
        Due.say(name + " in time", "true", String.valueOf(System.nanoTime() - began < MOST_SECONDS * 1_000_000_000L));
    }
}
