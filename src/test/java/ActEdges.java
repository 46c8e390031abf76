/** The boundary cases of what is seen of a chain, of ACTS, and of images: the promises 6 to 16, 51 to 53. */
final class ActEdges {
    private static final int[] WRONG = {Edge.LOW, -1000, -3, -2, -1};

    private ActEdges() {
    }

    static void run() {
        rowPlaces();
        nodeNoSuch();
        nodeNotInTheRow();
        underNoNext();
        dueNone();
        dueNextOne();
        wroteNoSuch();
        wroteBits();
        writeRefused();
        writeBounds();
        tickRefused();
        tickCounts();
        loseRefused();
        loseAnswers();
        joinRefused();
        joinAnswers();
        undoNone();
        undoEachAct();
        undoLatestFirst();
        redoTillAnotherAct();
        fortyAreKept();
        imageRefused();
        imageKeeps();
        backRefused();
        backKeepsNoActs();
        aboutOther();
        aboutEach();
    }

    private static void rowPlaces() {
        Edge.of(6, "The NODE at a place of the ROW (0: the HEAD); NONE if there is none such.");
        ReplicaChain x = Told.of("spare s; member a; member b;");
        Edge.same("row(0)", x.row(0), 1);
        Edge.same("row(1)", x.row(1), 2);
        for (int wrong : new int[] {Edge.LOW, -1, 2, 3, 5, 6, 7, 8, Edge.HIGH}) {
            Edge.none("row(" + wrong + ")", x.row(wrong));
        }
        x = Told.of(Edge.SIX);
        Edge.same("row(5)", x.row(5), 5);
        Edge.none("row(6)", x.row(6));
        x.lose(5);
        Edge.none("row(5), as it is gone", x.row(5));
        Edge.none("row(0) without members", Told.of("spare s;").row(0));
    }

    private static void nodeNoSuch() {
        Edge.of(7, "-2 if there is none such, or for another what");
        ReplicaChain x = Told.of(Edge.SIX);
        for (int what = 0; what < 5; what++) {
            for (int wrong : new int[] {Edge.LOW, -2, -1, 8, 9, Edge.HIGH}) {
                Edge.same("node(" + wrong + ", " + what + ")", x.node(wrong, what), -2);
            }
            Edge.same("node(4, ..) of four", Told.of(Edge.THREE).node(4, what), -2);
            Edge.same("node(0, ..) of none", Told.of("key k;").node(0, what), -2);
        }
        for (int what : new int[] {Edge.LOW, -1, 5, 6, Edge.HIGH}) {
            Edge.same("node(0, " + what + ")", x.node(0, what), -2);
        }
    }

    private static void nodeNotInTheRow() {
        Edge.of(7, "its place in the ROW (-1: none) .. (1, 2, 3 of who is not in the ROW: 0)");
        ReplicaChain x = Told.of(Edge.THREE);
        x.write(0, 1);
        Told.ticks(x, 3);
        x.write(0, 1);
        x.write(0, 1);
        int[] head = {0, 3, 0, 3, 0};
        int[] middle = {1, 1, 1, 0, 0};
        for (int what = 0; what < 5; what++) {
            Edge.same("node(0, " + what + ")", x.node(0, what), head[what]);
            Edge.same("node(1, " + what + ")", x.node(1, what), middle[what]);
            Edge.same("a spare: node(3, " + what + ")", x.node(3, what), what == 0 ? -1 : 0);
        }
        x.lose(0);
        x.lose(1);
        for (int what = 0; what < 5; what++) {
            Edge.same("gone: node(0, " + what + ")", x.node(0, what), what == 0 ? -1 : 0);
            Edge.same("gone: node(1, " + what + ")", x.node(1, what), what == 0 ? -1 : 0);
        }
        x.join(0);
        Edge.same("it copies: node(0, 4)", x.node(0, 4), 1);
        Edge.same("it copies: node(0, 0)", x.node(0, 0), -1);
        Edge.same("it copies: node(0, 1)", x.node(0, 1), 0);
        Told.ticks(x, 2);
        Edge.same("joined anew: node(0, 0)", x.node(0, 0), 1);
        Edge.same("joined anew: node(0, 1)", x.node(0, 1), 1);
        Edge.same("joined anew: node(0, 4)", x.node(0, 4), 0);
    }

    private static void underNoNext() {
        Edge.of(8, "NONE if there is no next one, or for another what");
        ReplicaChain x = Told.of(Edge.THREE);
        x.write(0, 1);
        for (int what = 0; what < 2; what++) {
            Edge.same("under(1, " + what + ")", x.under(1, what), 0);
            for (int wrong : new int[] {Edge.LOW, -1, 2, 3, 5, 6, Edge.HIGH}) {
                Edge.none("under(" + wrong + ", " + what + ")", x.under(wrong, what));
            }
            Edge.none("of one alone", Told.of(Edge.ONE).under(0, what));
            Edge.none("without members", Told.of("").under(0, what));
        }
        for (int what : new int[] {Edge.LOW, -1, 2, 3, Edge.HIGH}) {
            Edge.none("under(0, " + what + ")", x.under(0, what));
        }
    }

    private static void dueNone() {
        Edge.of(9, "NONE if none is under way, or one can't be");
        ReplicaChain x = Told.of(Edge.THREE);
        Edge.none("due(0, 0), none", x.due(0, 0));
        Edge.none("due(0, 1), none", x.due(0, 1));
        x.write(0, 1);
        Edge.same("due(0, 0)", x.due(0, 0), 1);
        Edge.none("due(0, 1), only down", x.due(0, 1));
        Edge.none("due(1, 0), elsewhere", x.due(1, 0));
        for (int wrong : new int[] {Edge.LOW, -1, 2, 3, 6, Edge.HIGH}) {
            Edge.none("due(" + wrong + ", 0)", x.due(wrong, 0));
            Edge.none("due(" + wrong + ", 1)", x.due(wrong, 1));
            Edge.none("due(0, " + (wrong == 3 ? 4 : wrong) + ")", x.due(0, wrong == 3 ? 4 : wrong));
        }
        Told.ticks(x, 4);
        Edge.none("due(0, 0), all came", x.due(0, 0));
        Edge.none("due(0, 1), all came", x.due(0, 1));
        Edge.none("of one alone", Told.of(Edge.ONE).due(0, 0));
    }

    private static void dueNextOne() {
        Edge.of(9, "In how many TICKS the next message comes there (what 0: DOWN, 1: UP; 1: with the next one)");
        ReplicaChain x = Told.of(Edge.TWO + "slow 9 - write;");
        x.write(0, 1);
        for (int left = 8; left >= 1; left--) {
            Edge.same("due(0, 0)", x.due(0, 0), left);
            x.tick();
        }
        x.write(0, 1);
        for (int left = 8; left >= 2; left--) {
            Edge.same("due(0, 1), down is not looked at", x.due(0, 1), left);
            x.tick();
        }
        Edge.same("down came with this tick", x.under(0, 1), 2);
        Edge.same("due(0, 1) of the first", x.due(0, 1), 1);
        x.tick();
        Edge.same("due(0, 1) of the second", x.due(0, 1), 6);
    }

    private static void wroteNoSuch() {
        Edge.of(10, "NONE if there is none such, or for another what");
        ReplicaChain x = Told.of(Edge.THREE);
        Edge.none("wrote(1, 0) of none", x.wrote(1, 0));
        x.write(1, 99);
        x.write(0, 0);
        for (int what = 0; what < 5; what++) {
            for (int wrong : new int[] {Edge.LOW, -1, 0, 3, 40, 41, 42, Edge.HIGH}) {
                Edge.none("wrote(" + wrong + ", " + what + ")", x.wrote(wrong, what));
            }
        }
        for (int what : new int[] {Edge.LOW, -1, 5, 6, Edge.HIGH}) {
            Edge.none("wrote(1, " + what + ")", x.wrote(1, what));
        }
        x.lose(0);
        Edge.none("wrote(1, 1), dropped", x.wrote(1, 1));
        Edge.none("without members", Told.of("key k;").wrote(1, 0));
        Edge.none("wrote(0, 0) without members", Told.of("key k;").wrote(0, 0));
    }

    private static void wroteBits() {
        Edge.of(10, "3: MEMBERS that HAVE it, 4: those to whom it is CLEAN, both as bits of NODES");
        ReplicaChain x = Told.of("spare s; member a; spare t; member b; member c; key x;");
        x.write(0, 0);
        int[] have = {2, 10, 26, 26, 26};
        int[] clean = {0, 0, 16, 24, 26};
        for (int i = 0; i < have.length; i++) {
            Edge.same("wrote(1, 3) on tick " + i, x.wrote(1, 3), have[i]);
            Edge.same("wrote(1, 4) on tick " + i, x.wrote(1, 4), clean[i]);
            Edge.same("wrote(1, 2) on tick " + i, x.wrote(1, 2), i == 4 ? 1 : 0);
            x.tick();
        }
        x.lose(3);
        Edge.same("wrote(1, 3) behind a loss", x.wrote(1, 3), 18);
        Edge.same("wrote(1, 4) behind a loss", x.wrote(1, 4), 18);
    }

    private static void writeRefused() {
        Edge.of(11, "NONE, doing nothing, if there are no MEMBERS, it would be above 40, or one can't be.");
        for (int wrong : WRONG) {
            Edge.refused("write(" + wrong + ", 0)", y -> y.write(wrong, 0));
            Edge.refused("write(0, " + wrong + ")", y -> y.write(0, wrong));
        }
        for (int wrong : new int[] {2, 3, 4, 5, Edge.HIGH}) {
            Edge.refused("write(" + wrong + ", 0)", y -> y.write(wrong, 0));
        }
        for (int wrong : new int[] {100, 101, Edge.HIGH}) {
            Edge.refused("write(0, " + wrong + ")", y -> y.write(0, wrong));
        }
        Edge.idle("write without members", x -> Edge.same("chain()", told(x, "spare s; key k;"), 0),
                y -> y.write(0, 0), ReplicaChain.NONE);
        Edge.idle("write without keys", x -> Edge.same("chain()", told(x, "member a;"), 1), y -> y.write(0, 0),
                ReplicaChain.NONE);
        Edge.idle("write above 40", ActEdges::fill, y -> y.write(0, 0), ReplicaChain.NONE);
    }

    private static int told(ReplicaChain x, String text) {
        Told.lay(x, text);
        return x.chain();
    }

    private static void fill(ReplicaChain x) {
        told(x, Edge.TWO);
        for (int i = 1; i <= 40; i++) {
            x.write(i % 2, i);
        }
        x.tick();
        x.undo();
    }

    private static void writeBounds() {
        Edge.of(11, "A WRITE (a VALUE 0 .. 99): its number");
        ReplicaChain x = Told.of("member a; member b; key k; key l; key m; key n;");
        Edge.same("write(0, 0)", x.write(0, 0), 1);
        Edge.same("write(3, 99)", x.write(3, 99), 2);
        Edge.same("value 0", x.wrote(1, 1), 0);
        Edge.same("value 99", x.wrote(2, 1), 99);
        Edge.same("key 3", x.wrote(2, 0), 3);
        Edge.same("acts", x.about(8), 2);
    }

    private static void tickRefused() {
        Edge.of(12, "NONE, doing nothing, without MEMBERS, or behind 999 of them.");
        Edge.idle("tick() without members", x -> told(x, "spare s; key k; loss 100;"), y -> y.tick(),
                ReplicaChain.NONE);
        // More calls than an object is used for; but the sentence stands in the document.
        ReplicaChain x = Told.of(Edge.TWO);
        for (int i = 0; i < 999; i++) {
            Edge.same("tick(), number " + (i + 1), x.tick(), 0);
        }
        int seed = x.about(7);
        Edge.none("tick() behind 999", x.tick());
        Edge.same("the tick", x.about(6), 999);
        Edge.same("the seed", x.about(7), seed);
        x.undo();
        Edge.same("tick() behind 998", x.tick(), 0);
    }

    private static void tickCounts() {
        Edge.of(12, "A TICK: how many messages came");
        ReplicaChain x = Told.of(Edge.THREE);
        Edge.same("none", x.tick(), 0);
        x.write(0, 1);
        x.write(0, 1);
        Edge.same("two down", x.tick(), 2);
        x.write(0, 1);
        Edge.same("three down", x.tick(), 3);
        x.write(0, 1);
        Edge.same("two down, two up", x.tick(), 4);
        Edge.same("the tick", x.about(6), 4);
        Edge.same("acts", x.about(8), 8);
    }

    private static void loseRefused() {
        Edge.of(13, "NONE, doing nothing, if it is not in the ROW, or alone.");
        for (int wrong : WRONG) {
            Edge.refused("lose(" + wrong + ")", y -> y.lose(wrong));
        }
        for (int wrong : new int[] {2, 4, 5, 6, 7, 8, 9, Edge.HIGH}) {
            Edge.refused("lose(" + wrong + "), no member", y -> y.lose(wrong));
        }
        Edge.idle("lose(0), alone", x -> told(x, Edge.ONE), y -> y.lose(0), ReplicaChain.NONE);
        Edge.idle("lose(0), alone by a loss", ActEdges::leaveOne, y -> y.lose(0), ReplicaChain.NONE);
        Edge.idle("lose(1), gone", ActEdges::leaveOne, y -> y.lose(1), ReplicaChain.NONE);
        Edge.idle("lose(0) without members", x -> told(x, "spare s;"), y -> y.lose(0), ReplicaChain.NONE);
    }

    private static void leaveOne(ReplicaChain x) {
        told(x, Edge.TWO);
        x.write(0, 4);
        x.lose(1);
        x.tick();
        x.undo();
    }

    private static void loseAnswers() {
        Edge.of(13, "A LOSS: how many WRITES are DROPPED");
        ReplicaChain x = Told.of(Edge.THREE);
        Edge.same("lose(0) of none", x.lose(0), 0);
        Edge.same("an act", x.about(8), 1);
        x = Told.of(Edge.TWO);
        for (int i = 0; i < 40; i++) {
            x.write(0, i);
        }
        Edge.same("lose(0) of 40", x.lose(0), 40);
        Edge.same("about(4)", x.about(4), 40);
        Edge.same("about(3)", x.about(3), 0);
        x.tick();
        Edge.same("about(4) behind another act", x.about(4), 40);
        x = Told.of(Edge.THREE);
        x.write(0, 1);
        x.lose(0);
        x.write(0, 1);
        x.write(0, 1);
        Edge.same("lose(1) behind lose(0)", x.lose(1), 2);
        Edge.same("about(4), together", x.about(4), 3);
        x = Told.of(Edge.THREE);
        x.write(0, 1);
        Edge.same("lose(1), in the middle", x.lose(1), 0);
        Edge.same("lose(2), the tail", x.lose(2), 0);
        Edge.same("none is dropped", x.about(4), 0);
    }

    private static void joinRefused() {
        Edge.of(14, "NONE, doing nothing, if one does, it is in the ROW, there are no MEMBERS, or 6, or there is none such.");
        for (int node = -1; node <= 5; node++) {
            int n = node;
            Edge.refused("join(" + n + "), one copies", y -> y.join(n));
            if (n < 3 || n > 3) {
                Edge.idle("join(" + n + ")", x -> told(x, Edge.THREE), y -> y.join(n), ReplicaChain.NONE);
            }
            Edge.idle("join(" + n + ") without members", x -> told(x, "spare s; spare t;"), y -> y.join(n),
                    ReplicaChain.NONE);
        }
        Edge.idle("join(low)", x -> told(x, Edge.THREE), y -> y.join(Edge.LOW), ReplicaChain.NONE);
        Edge.idle("join(high)", x -> told(x, Edge.THREE), y -> y.join(Edge.HIGH), ReplicaChain.NONE);
        Edge.idle("join(6) of six", x -> told(x, Edge.SIX), y -> y.join(6), ReplicaChain.NONE);
        Edge.idle("join(8) of six", x -> told(x, Edge.SIX), y -> y.join(8), ReplicaChain.NONE);
    }

    private static void joinAnswers() {
        Edge.of(14, "A NODE begins to COPY: for how many TICKS");
        ReplicaChain x = Told.of(Edge.THREE);
        Edge.same("copy not told", x.join(3), 2);
        Edge.same("an act", x.about(8), 1);
        Edge.same("copy 1", Told.of("copy 1;" + Edge.ONE).join(1), 1);
        Edge.same("copy 9", Told.of("copy 9;" + Edge.ONE).join(1), 9);
        x = Told.of(Edge.SIX);
        x.lose(0);
        Edge.same("five, one that is gone", x.join(0), 2);
        Told.ticks(x, 2);
        Edge.row(x, 1, 2, 3, 4, 5, 0);
        Edge.none("six again", x.join(6));
        x.lose(3);
        Edge.same("another, as the first has joined", x.join(7), 2);
    }

    private static void undoNone() {
        Edge.of(15, "UNDO: true; false if there is none.");
        Edge.idle("undo() of a new one", x -> { }, y -> y.undo() ? 1 : 0, 0);
        Edge.idle("undo() of one told", x -> told(x, Edge.THREE), y -> y.undo() ? 1 : 0, 0);
        Edge.idle("undo() behind all undone", ActEdges::undoneAll, y -> y.undo() ? 1 : 0, 0);
        Edge.of(16, "REDO: true; false if there is none.");
        Edge.idle("redo() of a new one", x -> { }, y -> y.redo() ? 1 : 0, 0);
        Edge.idle("redo() of one told", x -> told(x, Edge.THREE), y -> y.redo() ? 1 : 0, 0);
        Edge.idle("redo() behind an act", x -> {
            undoneAll(x);
            x.tick();
        }, y -> y.redo() ? 1 : 0, 0);
        ReplicaChain x = new ReplicaChain();
        undoneAll(x);
        Edge.yes("redo()", x.redo());
        Edge.yes("redo()", x.redo());
        Edge.no("redo() behind all redone", x.redo());
        Edge.yes("undo()", x.undo());
        Edge.yes("undo()", x.undo());
        Edge.no("undo()", x.undo());
    }

    private static void undoneAll(ReplicaChain x) {
        told(x, Edge.THREE);
        x.write(0, 1);
        x.tick();
        x.undo();
        x.undo();
    }

    private static void undoEachAct() {
        Edge.of(0, "UNDO takes back the latest ACT that was not, REDO does that again which was taken back last");
        String[] acts = {"write", "tick", "lose the head", "lose the middle", "lose the tail", "join"};
        for (int act = 0; act < acts.length; act++) {
            ReplicaChain x = new ReplicaChain();
            ReplicaChain y = new ReplicaChain();
            ReplicaChain z = new ReplicaChain();
            for (ReplicaChain one : new ReplicaChain[] {x, y, z}) {
                told(one, Edge.THREE + "slow 2; loss 60; copy 5; draw 44;");
                one.write(0, 1);
                one.tick();
                one.write(1, 2);
            }
            does(x, act);
            does(z, act);
            Edge.yes(acts[act] + ", undo()", x.undo());
            Edge.same("it can be redone", x.about(9), 1);
            Edge.same("acts", x.about(8), 3);
            Edge.same("the tick", x.about(6), y.about(6));
            Edge.same("the seed", x.about(7), y.about(7));
            Edge.same("members", x.about(0), y.about(0));
            Edge.same("writes", x.about(3), y.about(3));
            Edge.same("dropped", x.about(4), y.about(4));
            Edge.same("copies", x.about(5), y.about(5));
            Edge.same("traffic", x.traffic(), y.traffic());
            Edge.same("due", x.due(0, 0), y.due(0, 0));
            Edge.same("due", x.due(1, 0), y.due(1, 0));
            Edge.yes(acts[act] + ", redo()", x.redo());
            Edge.alike(acts[act] + ", redo()", x, z);
        }
    }

    private static void does(ReplicaChain x, int act) {
        int answer = act == 0 ? x.write(0, 9) : act == 1 ? x.tick() : act == 5 ? x.join(3) : x.lose(act - 2);
        Edge.yes("it is done", answer >= 0);
    }

    private static void undoLatestFirst() {
        Edge.of(0, "UNDO takes back the latest ACT that was not");
        ReplicaChain x = Told.of(Edge.TWO);
        x.write(0, 1);
        x.write(0, 2);
        x.write(0, 3);
        x.undo();
        Edge.same("the third is undone", x.latest(0), 2);
        x.undo();
        Edge.same("the second is undone", x.latest(0), 1);
        x.redo();
        Edge.same("the second is redone", x.latest(0), 2);
        Edge.same("its value", x.wrote(2, 1), 2);
        x.undo();
        x.undo();
        Edge.same("the first is undone", x.latest(0), 0);
    }

    private static void redoTillAnotherAct() {
        Edge.of(0, "(till another ACT)");
        for (int act = 0; act < 6; act++) {
            ReplicaChain x = Told.of(Edge.THREE);
            x.write(0, 1);
            x.tick();
            x.undo();
            does(x, act);
            Edge.same("redone", x.about(9), 0);
            Edge.no("redo()", x.redo());
            Edge.same("undone", x.about(8), 2);
        }
    }

    private static void fortyAreKept() {
        Edge.of(0, "40 at most are kept, the oldest go");
        for (int ticks = 39; ticks <= 42; ticks++) {
            ReplicaChain x = Told.of(Edge.THREE);
            Told.ticks(x, ticks);
            Edge.same("kept", x.about(8), Math.min(ticks, 40));
            int undone = 0;
            while (undone < 100 && x.undo()) {
                undone++;
                Edge.same("the tick", x.about(6), ticks - undone);
                Edge.same("redone", x.about(9), undone);
            }
            Edge.same("undone", undone, Math.min(ticks, 40));
            while (undone > 0 && x.redo()) {
                undone--;
                Edge.same("the tick", x.about(6), ticks - undone);
            }
            Edge.same("all are redone", undone, 0);
            Edge.no("redo()", x.redo());
        }
        ReplicaChain x = Told.of(Edge.TWO);
        for (int i = 0; i < 90; i++) {
            x.write(i % 2, i);
            x.tick();
        }
        Told.ticks(x, 25);
        for (int i = 0; i < 25; i++) {
            x.undo();
        }
        Told.ticks(x, 26);
        Edge.same("another act behind 25 undone", x.about(8), 40);
        for (int i = 0; i < 40; i++) {
            Edge.yes("undo()", x.undo());
        }
        Edge.no("undo()", x.undo());
    }

    private static void imageRefused() {
        Edge.of(51, "a BOX 0 .. 2: the tick; NONE if there is none such");
        for (int wrong : new int[] {Edge.LOW, -1, 3, 4, Edge.HIGH}) {
            Edge.refused("image(" + wrong + ")", y -> y.image(wrong));
        }
        ReplicaChain x = Told.of(Edge.THREE);
        for (int box = 0; box < 3; box++) {
            Edge.same("image(" + box + ")", x.image(box), box);
            x.tick();
        }
        for (int box = 0; box < 3; box++) {
            Edge.same("back(" + box + ")", x.back(box), box);
            Edge.same("the tick", x.about(6), box);
        }
        x.image(1);
        Edge.same("a box that is full is kept in anew: back(1)", x.back(1), 2);
        Edge.same("the others stay: back(0)", x.back(0), 0);
        Edge.same("image(0) of a new one", new ReplicaChain().image(0), 0);
    }

    private static void imageKeeps() {
        Edge.of(51, "The ROW, what all HAVE, what is CLEAN, messages, who COPIES, WRITES, the tick, the SEED are kept");
        for (int act = 0; act < 7; act++) {
            ReplicaChain x = new ReplicaChain();
            ReplicaChain y = new ReplicaChain();
            for (ReplicaChain one : new ReplicaChain[] {x, y}) {
                told(one, Edge.THREE + "slow 2; loss 60; copy 5; draw 44;");
                one.write(0, 1);
                one.tick();
                one.write(1, 2);
                one.write(0, 3);
                one.image(2);
            }
            if (act < 6) {
                does(x, act);
            } else {
                x.undo();
            }
            Edge.same("back(2)", x.back(2), 1);
            Edge.same("back(2)", y.back(2), 1);
            Edge.alike("back(2) behind act " + act, x, y);
        }
        ReplicaChain x = Told.of(Edge.TWO + "copy 5;");
        x.join(2);
        Told.ticks(x, 2);
        x.image(0);
        Told.ticks(x, 3);
        x.back(0);
        Edge.same("who copies", x.node(2, 4), 1);
        Edge.same("for how long", x.about(5), 3);
        Told.ticks(x, 3);
        Edge.row(x, 0, 1, 2);
        x.back(0);
        Edge.row(x, 0, 1);
    }

    private static void backRefused() {
        Edge.of(52, "NONE, doing nothing, if nothing was.");
        for (int wrong : new int[] {Edge.LOW, -1, 0, 2, 3, 4, Edge.HIGH}) {
            Edge.refused("back(" + wrong + ")", y -> y.back(wrong));
        }
        ReplicaChain x = Told.of(Edge.TWO);
        Edge.none("back(0)", x.back(0));
        x.image(0);
        Edge.same("back(0)", x.back(0), 0);
        Edge.none("back(1)", x.back(1));
    }

    private static void backKeepsNoActs() {
        Edge.of(52, "All is as it was kept (no ACTS are kept then): the tick");
        ReplicaChain x = Told.of(Edge.TWO);
        x.write(0, 1);
        x.tick();
        x.image(0);
        x.tick();
        x.undo();
        Edge.same("undone", x.about(8), 2);
        Edge.same("redone", x.about(9), 1);
        Edge.same("back(0)", x.back(0), 1);
        Edge.same("undone", x.about(8), 0);
        Edge.same("redone", x.about(9), 0);
        Edge.no("undo()", x.undo());
        Edge.no("redo()", x.redo());
        x.tick();
        Edge.yes("undo() of an act behind it", x.undo());
        Edge.same("the tick", x.about(6), 1);
        Edge.no("undo()", x.undo());
        Edge.same("the box is as it was: back(0)", x.back(0), 1);
        Edge.same("messages", x.due(0, 1), 1);
    }

    private static void aboutOther() {
        Edge.of(53, "NONE for another what.");
        for (int wrong : new int[] {Edge.LOW, -2, -1, 17, 18, 100, Edge.HIGH}) {
            Edge.refused("about(" + wrong + ")", y -> y.about(wrong));
        }
    }

    private static void aboutEach() {
        Edge.of(53, "0: MEMBERS .. 16: loss in 100");
        int[] before = {3, 5, 2, 4, 0, 7, 2, 181, 7, 2, 2, 4, 20, 5, 3, 8, 1};
        ReplicaChain x = new ReplicaChain();
        Edge.busy(x);
        for (int what = 0; what < before.length; what++) {
            Edge.same("about(" + what + ")", x.about(what), before[what]);
        }
        x.lose(0);
        Edge.same("about(0) behind a loss", x.about(0), 2);
        Edge.same("about(3) behind a loss", x.about(3), 3);
        Edge.same("about(4) behind a loss", x.about(4), 1);
        Edge.same("about(5) behind a loss of the head", x.about(5), 7);
        Edge.same("about(9) behind an act", x.about(9), 0);
    }
}
