/**
 * What can be seen of an object, a line an answer. The object is used up by that: its ACTS are undone,
 * its boxes gone back to. (Few enough calls for the 512 that an object is used for.)
 */
final class Picture {
    private static final int[] OF_CHAIN = {0, 3, 4, 5, 6, 7};
    private final ReplicaChain x;
    private final StringBuilder text = new StringBuilder();

    private Picture(ReplicaChain x) {
        this.x = x;
    }

    static String of(ReplicaChain x) {
        Picture p = new Picture(x);
        p.counts();
        p.told();
        p.chain("");
        for (int i = 0; x.undo(); i++) {
            p.brief("undone " + i + " ");
        }
        for (int i = 0; x.redo(); i++) {
            p.brief("redone " + i + " ");
        }
        for (int box = 0; box < 3; box++) {
            int tick = x.back(box);
            p.line("back " + box, tick);
            if (tick >= 0) {
                p.chain("box " + box + " ");
            }
        }
        return p.text.toString();
    }

    private void line(String call, int answer) {
        text.append(call).append(" answered ").append(answer).append('\n');
    }

    private void counts() {
        for (int what = 0; what <= 16; what++) {
            line("about " + what, x.about(what));
        }
    }

    private void told() {
        for (int i = 0; i < 6; i++) {
            line("lies " + i, x.lies(i));
        }
        for (int k = 0; k < 9; k += 4) {
            line("fits at " + k, x.fits(k));
            line("ask at " + k, x.ask(0, k));
            line("culprit at " + k, x.culprit(0, k));
        }
    }

    private void brief(String when) {
        for (int what : OF_CHAIN) {
            line(when + "about " + what, x.about(what));
        }
        line(when + "traffic", x.traffic());
        line(when + "soonest of", x.soonestOf(2));
    }

    private void chain(String when) {
        brief(when);
        int members = x.about(0);
        for (int place = 0; place < members; place++) {
            int node = x.row(place);
            line(when + "row " + place, node);
            line(when + "has " + node, x.node(node, 1));
            line(when + "clean " + node, x.node(node, 2));
            for (int way = 0; way <= 1; way++) {
                line(when + "under " + place + " " + way, x.under(place, way));
                line(when + "due " + place + " " + way, x.due(place, way));
            }
        }
        int writes = x.about(3);
        for (int write = 1; write <= writes; write++) {
            line(when + "key of " + write, x.wrote(write, 0));
            line(when + "value of " + write, x.wrote(write, 1));
        }
        line(when + "will", x.will(2, 1));
        line(when + "trip", x.trip());
        line(when + "still", x.still());
        line(when + "idle", x.idle());
    }
}
