import java.lang.management.ManagementFactory;

/** All calls of a run live in one room: an object is made once, and its calls make nothing. */
public final class RoomTest {
    private static final com.sun.management.ThreadMXBean BEAN =
        (com.sun.management.ThreadMXBean) ManagementFactory.getThreadMXBean();

    private RoomTest() {
    }

    public static void main(String[] args) {
        use(new Far(), 0);
        for (int round = 0; round < 6; round++) {
            long start = made();
            Far x = new Far();
            long object = made() - start;
            Check.due("an object takes " + object + " bytes, far less than 64 KiB", object < 65536, true);
            start = made();
            use(x, round);
            long calls = made() - start;
            Check.due(x.calls() + " calls made " + calls + " bytes", calls < 4096, true);
        }
        Check.close("RoomTest");
    }

    private static long made() {
        return BEAN.getThreadAllocatedBytes(Thread.currentThread().getId());
    }

    /** Each call, and each question of each NODE, of two COPIES that the round tells. */
    private static void use(Far x, int round) {
        int copy = round % 3;
        int other = (copy + 1 + round / 3) % 3;
        for (int i = 0; i < 6; i++) {
            for (int c = 0; c < 3; c++) {
                x.makes(c, 2 + (i * 5 + c * 3 + round) % 12, (i * 7 + c + round) % 14, i % 2);
            }
        }
        ask(x, copy, other);
        x.sign('g' << 24 | '0' << 16 | 'g' << 8 | '1');
        x.sign('g' << 24 | '2' << 16 | 'b' << 8 | '0');
        x.sign('b' << 24 | '1' << 16 | 'b' << 8 | '2');
        x.sign('g' << 24 | '0' << 16 | 'g' << 8 | '1');
        x.sign('x' << 24 | '0' << 16 | 'x' << 8 | '1');
        x.day();
        x.gathers(2);
        x.cuts(2);
        x.years(round, 40);
        x.keep(0);
        x.comes(0, 1);
        x.again(0);
    }

    private static void ask(Far x, int copy, int other) {
        x.letters(copy, other);
        x.stable(copy);
        x.voids(copy);
        for (int node = 0; node < 14; node++) {
            x.below(copy, node);
            x.depth(copy, node);
            x.meets(copy, node, 13 - node);
            x.places(copy, node);
            x.path(copy, node);
            for (int k = 0; k < 6; k++) {
                x.total(copy, node, k);
                x.lists(copy, node, k);
            }
        }
        x.sign('/' << 24 | '0' << 16 | '/' << 8 | '1');
        x.finds(copy);
        x.apart(copy, other);
        x.late(copy, other);
        x.then(copy);
        x.worst(copy);
        for (int i = 0; i < 20; i++) {
            x.frees(copy, i);
        }
        x.idle(copy);
        x.nearest(copy, other);
        x.years(copy, 40);
    }
}
