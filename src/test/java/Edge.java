import java.util.function.Consumer;
import java.util.function.ToLongFunction;

/**
 * What the tests of boundary cases share. Each test begins with the number of the promise (0: the
 * terms) and the document's own words, so that a failure tells the sentence that is broken.
 */
final class Edge {
    static final int LOW = Integer.MIN_VALUE;
    static final int HIGH = Integer.MAX_VALUE;
    static final String ONE = "member a; spare b; key x;";
    static final String TWO = "member a; member b; spare c; key x; key y;";
    static final String THREE = "member a; member b; member c; spare d; key x; key y;";
    static final String SIX =
            "member a; member b; member c; member d; member e; member f; spare g; spare h; key x;";
    private static String sentence = "";

    private Edge() {
    }

    static void of(int promise, String words) {
        sentence = (promise == 0 ? "terms" : "promise " + promise) + ", \"" + words + "\": ";
    }

    static void same(String call, long got, long due) {
        Check.same(sentence + call, got, due);
    }

    static void none(String call, long got) {
        Check.same(sentence + call, got, ReplicaChain.NONE);
    }

    static void yes(String call, boolean got) {
        Check.yes(sentence + call, got);
    }

    static void no(String call, boolean got) {
        Check.no(sentence + call, got);
    }

    static void row(ReplicaChain x, int... nodes) {
        for (int place = 0; place < nodes.length; place++) {
            same("row(" + place + ")", x.row(place), nodes[place]);
        }
        none("row(" + nodes.length + ")", x.row(nodes.length));
    }

    /** Told, given some writes and ticks, copying, with something to undo, redo, go back to and untell. */
    static void busy(ReplicaChain x) {
        Told.lay(x, "member a; member b; spare e; member c; spare f; key x; key y; "
                + "slow 1 + back * (2 + from); copy 8; loss 1; draw 7;");
        Edge.same("a busy chain", x.chain(), 3);
        x.write(0, 11);
        x.write(1, 12);
        x.tick();
        x.image(1);
        x.seen(3, true);
        x.later(4);
        x.seen(5, false);
        x.untell(1);
        x.soonest();
        x.write(0, 13);
        x.join(4);
        x.tick();
        x.write(1, 14);
        x.tick();
        x.write(1, 15);
        x.undo();
        x.undo();
        x.feed(0x63207820, 1, 2, 3, 4);
        Edge.none("a fault of a busy chain", x.chain());
    }

    private static ReplicaChain made(Consumer<ReplicaChain> story) {
        ReplicaChain x = new ReplicaChain();
        story.accept(x);
        return x;
    }

    /** The call has its due answer, and all is behind it as it would be without it. */
    static void idle(String call, Consumer<ReplicaChain> story, ToLongFunction<ReplicaChain> asked, long due) {
        ReplicaChain without = made(story);
        ReplicaChain with = made(story);
        same(call, asked.applyAsLong(with), due);
        same(call + ", fault(0) behind it", with.fault(0), without.fault(0));
        same(call + ", fault(1) behind it", with.fault(1), without.fault(1));
        alike(call, with, without);
    }

    /** A busy chain answers NONE to it, and nothing is done. */
    static void refused(String call, ToLongFunction<ReplicaChain> asked) {
        idle(call, Edge::busy, asked, ReplicaChain.NONE);
    }

    static void alike(String call, ReplicaChain with, ReplicaChain without) {
        String got = Picture.of(with);
        String due = Picture.of(without);
        yes(call + ", all behind it: " + firstDifference(got, due), got.equals(due));
    }

    private static String firstDifference(String got, String due) {
        String[] a = got.split("\n");
        String[] b = due.split("\n");
        for (int i = 0; i < a.length && i < b.length; i++) {
            if (!a[i].equals(b[i])) {
                return a[i] + ", due is " + b[i];
            }
        }
        return "alike";
    }
}
