import java.lang.management.ManagementFactory;
import java.util.NoSuchElementException;

/** All calls live in one room: an object takes little of it, and its calls take nothing more. */
public final class RoomTest {
    private static final int MOST_BYTES_OF_AN_OBJECT = 40_000;
    /** Each on an object of its own, which is used for at most 512 calls. */
    private static final int ROUNDS = 40;
    private static final com.sun.management.ThreadMXBean THREADS =
            (com.sun.management.ThreadMXBean) ManagementFactory.getThreadMXBean();
    private static int sink;

    public static void main(String[] args) {
        new ShoeOrchard();
        long before = bytes();
        ShoeOrchard orchard = new ShoeOrchard();
        Check.due("an object is small", bytes() - before < MOST_BYTES_OF_AN_OBJECT, true);
        String text = "tree ta brogue last 3 age 2;tree tb boot last 12 age 2;tree tc slipper last 8 age 2;tree td sandal last 8 age 2;"
                + "tree te boot last 9 age 2;tree tf boot last 9 age 2;person pa plain feet 29;person pb plain feet 8;"
                + "person pc child feet 7;person pd hopper feet 14;person pe old feet 6;person pf plain feet 9;"
                + "noon 6;frost 0 1 0 2;bears size + ( years < 3 ) * not ( date and chill );";
        String lines = "try pa ta;try pb tc;share pb pc;graft ta tb;prune tf;year;try pf te;";
        long[] packedText = packed(text);
        long[] packedLines = packed(lines);
        calls(orchard, packedText, packedLines);
        ShoeOrchard[] others = new ShoeOrchard[ROUNDS];
        for (int i = 0; i < ROUNDS; i++) {
            others[i] = new ShoeOrchard();
        }
        before = bytes();
        for (int i = 0; i < ROUNDS; i++) {
            calls(others[i], packedText, packedLines);
        }
        Check.due("bytes of the rounds of calls", bytes() - before < 4_000, true);
        System.out.println("sum of answers " + sink);
        Check.end();
    }

    private static long bytes() {
        return THREADS.getCurrentThreadAllocatedBytes();
    }

    private static long[] packed(String text) {
        long[] row = new long[(text.length() + 23) / 24 * 3];
        for (int i = 0; i < row.length; i++) {
            row[i] = Check.packed(text, 8 * i);
        }
        return row;
    }

    private static void feed(ShoeOrchard x, long[] row) {
        for (int i = 0; i + 2 < row.length; i += 3) {
            sink += x.feed(row[i], row[i + 1], row[i + 2]);
        }
    }

    private static void calls(ShoeOrchard x, long[] text, long[] lines) {
        feed(x, text);
        int fault = x.orchard();
        feed(x, lines);
        fault += x.morning();
        if (fault != 0) {
            throw new IllegalStateException("the texts have a fault");
        }
        for (int i = -1; i < 6; i++) {
            sink += x.tree(i, 3) + x.person(i, 2) + x.fitted(i) + x.wearers(i) + x.shoes(i) + x.roads(i) + x.order(i) + x.mends(i);
            sink += x.when(i) + x.later(i, 40) + x.lack(i) + x.chance(i, 6, 4) + x.ages(i, 99, 1) + x.judged(i) + x.feet(i);
            sink += x.feel(i, i == 2) ? 1 : 0;
            sink += x.tryOn(i, i) + x.graft(i, i + 1) + x.prune(i) + x.year() + x.count(i);
            sink += x.share(i, 0) || x.fits(i, i) || x.mark(i, false) || x.mark(i, true) || x.undo() ? 1 : 0;
            sink += x.ask() + x.pairs() + x.idle() + x.sole() + x.twins() + x.best();
        }
        try {
            sink += x.rests(1, 2, 3, -1);
        } catch (NoSuchElementException e) {
            throw new IllegalStateException("rests are there");
        }
    }
}
