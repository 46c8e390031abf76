import java.util.function.ToLongFunction;

/** The boundary cases of what is asked of a chain: terms, part 3, and the promises 17 to 44. */
final class AskEdges {
    private AskEdges() {
    }

    static void run() {
        nothingIsDone();
        sixMembers();
        noLossesByDraws();
        readCantBe();
        readIfDirty();
        lazyWhateverIsDirty();
        askersNoSuch();
        staleNoSuch();
        versionsCantBe();
        versionsInOrder();
        willBounds();
        willWithLosses();
        whenNone();
        whenFirst();
        stillFirst();
        dropsNone();
        dropsAtOnce();
        worstNone();
        worstLeast();
        safeNone();
        answeredNone();
        soonestNone();
        soonestFirstByNumbers();
        soonestNow();
        weedNone();
        weedNearest();
        fullestNone();
        fullestFirst();
        tripNone();
        withoutNone();
        latestNone();
        trafficOfNone();
        lagNone();
        peakNone();
        dirtiestNone();
        dirtiestNearest();
        soonestOfNone();
        soonestOfNearest();
        idleBits();
        lawNone();
        lawFromNowOn();
        oddsNone();
        oddsLowest();
        oddsOfOne();
        liesNone();
    }

    private static void others(String call, ToLongFunction<Integer> asked, int due, int... wrong) {
        for (int what : wrong) {
            Edge.same(call + " of " + what, asked.applyAsLong(what), due);
        }
    }

    private static ReplicaChain filled(String text) {
        ReplicaChain x = Told.of(text);
        for (int i = 1; i <= 40; i++) {
            x.write(0, i);
        }
        return x;
    }

    private static void nothingIsDone() {
        Edge.of(0, "(By what is now; nothing is done");
        ReplicaChain x = new ReplicaChain();
        Edge.busy(x);
        x.read(0, 0);
        x.lazy(1, 0);
        x.askers(0);
        x.stale(0);
        x.versions(0, 0);
        x.version(0, 0, 0);
        x.will(60, 0);
        x.will(60, 1);
        x.when(4);
        x.still();
        x.drops(1);
        x.worst(2, 0);
        x.safe();
        x.answered();
        x.soonest();
        x.weed(0);
        x.fullest();
        x.trip();
        x.without(1);
        x.latest(0);
        x.traffic();
        x.lag(1);
        x.peak(0);
        x.dirtiest(0);
        x.soonestOf(0);
        x.idle();
        x.law(9);
        x.odds(4, 0);
        x.lies(0);
        x.fits(4);
        x.culprit(0, 4);
        x.ask(0, 4);
        ReplicaChain without = new ReplicaChain();
        Edge.busy(without);
        Edge.alike("all that is asked", x, without);
    }

    private static void sixMembers() {
        Edge.of(0, "members (6 at most");
        ReplicaChain x = Told.of(Edge.SIX + "key y;");
        for (int i = 0; i < 7; i++) {
            x.write(0, i);
            x.tick();
        }
        // From the second on each has one write less than the one ahead; clean are 3 to the tail, 2 and 1 to those ahead.
        Edge.same("askers(0)", x.askers(0), 31);
        Edge.same("askers(1)", x.askers(1), 0);
        Edge.same("stale(0)", x.stale(0), 31);
        Edge.same("wrote(1, 3)", x.wrote(1, 3), 63);
        Edge.same("wrote(1, 4)", x.wrote(1, 4), 56);
        Edge.same("wrote(7, 3)", x.wrote(7, 3), 3);
        Edge.same("dirtiest(0)", x.dirtiest(0), 0);
        Edge.same("dirtiest(2)", x.dirtiest(2), 7);
        Edge.same("weed(0)", x.weed(0), 2);
        Edge.same("weed(1)", x.weed(1), 7);
        Edge.same("fullest()", x.fullest(), 2);
        Edge.same("soonestOf(0)", x.soonestOf(0), 1);
        Edge.same("traffic()", x.traffic(), 7);
        Edge.same("idle()", x.idle(), 192);
        Edge.same("drops(31)", x.drops(31), 4);
        Edge.same("worst(5, 0)", x.worst(5, 0), 4);
        Edge.same("safe()", x.safe(), 5);
        Edge.same("lag(5)", x.lag(5), 4);
        Edge.same("when(7)", x.when(7), 9);
        Edge.same("without(5)", x.without(5), 8);
    }

    private static void noLossesByDraws() {
        Edge.of(0, "no losses by draws, if not told otherwise");
        ReplicaChain x = Told.of(Edge.THREE + "loss 100; draw 7;");
        x.write(0, 1);
        Edge.same("will(3, 0)", x.will(3, 0), 0);
        Edge.same("will(4, 0)", x.will(4, 0), 1);
        Edge.same("when(1)", x.when(1), 4);
        Edge.same("still()", x.still(), 4);
        Edge.same("trip()", x.trip(), 4);
        Edge.same("law(2)", x.law(2), 8);
        Edge.same("without(1)", x.without(1), 2);
        Edge.same("soonest()", x.soonest(), 4);
        Edge.same("fits(0)", x.fits(0), 4);
        x.seen(3, false);
        x.seen(4, true);
        Edge.same("culprit(0, 0)", x.culprit(0, 0), -1);
        Edge.same("fits(0)", x.fits(0), 1);
    }

    private static void readCantBe() {
        Edge.of(17, "READ (NONE: no such WRITE); -2 if it is not in the ROW, or one can't be.");
        ReplicaChain x = Told.of(Edge.THREE);
        Edge.none("read(0, 0), no such write", x.read(0, 0));
        x.write(0, 5);
        Edge.none("read(0, 0), none is clean to the tail", x.read(0, 0));
        Edge.none("read(2, 0), none is clean to the tail", x.read(2, 0));
        Told.ticks(x, 4);
        Edge.none("read(0, 1), none of this key", x.read(0, 1));
        Edge.of(18, "LAZY: likewise.");
        Edge.none("lazy(0, 1), none of this key", x.lazy(0, 1));
        for (int wrong : new int[] {Edge.LOW, -1, 3, 4, 8, Edge.HIGH}) {
            Edge.same("read(" + wrong + ", 0)", x.read(wrong, 0), -2);
            Edge.same("lazy(" + wrong + ", 0)", x.lazy(wrong, 0), -2);
        }
        for (int wrong : new int[] {Edge.LOW, -1, 2, 3, 4, Edge.HIGH}) {
            Edge.same("read(0, " + wrong + ")", x.read(0, wrong), -2);
            Edge.same("lazy(0, " + wrong + ")", x.lazy(0, wrong), -2);
        }
        x.lose(1);
        Edge.same("read(1, 0), gone", x.read(1, 0), -2);
        Edge.same("lazy(1, 0), gone", x.lazy(1, 0), -2);
        x.join(1);
        Edge.same("read(1, 0), copies", x.read(1, 0), -2);
        Edge.same("without members", Told.of("spare s; key k;").read(0, 0), -2);
    }

    private static void readIfDirty() {
        Edge.of(0, "if none of it is DIRTY to it; else of the latest one that is CLEAN to the TAIL");
        ReplicaChain x = Told.of(Edge.THREE);
        x.write(0, 5);
        Told.ticks(x, 4);
        x.write(0, 6);
        x.write(1, 7);
        Edge.same("dirty, the tail has the old one", x.read(0, 0), 5);
        x.tick();
        Edge.same("dirty at the middle", x.read(1, 0), 5);
        x.tick();
        Edge.same("dirty, the tail has the new one", x.read(0, 0), 6);
        Edge.same("lazy of it", x.lazy(0, 0), 5);
        x = Told.of(Edge.THREE + "slow 1 + back * 8;");
        x.write(0, 5);
        Told.ticks(x, 20);
        x.write(1, 7);
        x.tick();
        Edge.same("dirty of another key alone, by its own", x.read(0, 0), 5);
        x = Told.of(Edge.TWO + "slow 1 + back * 8;");
        x.write(0, 1);
        x.tick();
        x.write(1, 2);
        Edge.same("dirty, clean to the tail", x.read(0, 0), 1);
        Edge.none("dirty, not clean to the tail", x.read(0, 1));
        Edge.none("lazy of it", x.lazy(0, 0));
    }

    private static void lazyWhateverIsDirty() {
        Edge.of(0, "LAZY: of the latest one CLEAN to it, whatever is DIRTY.");
        ReplicaChain x = Told.of(Edge.TWO);
        x.write(0, 0);
        x.write(0, 99);
        Told.ticks(x, 2);
        x.write(0, 50);
        Edge.same("lazy(0, 0)", x.lazy(0, 0), 99);
        x.tick();
        Edge.same("lazy(0, 0)", x.lazy(0, 0), 99);
        Edge.same("lazy(1, 0)", x.lazy(1, 0), 50);
        x.tick();
        Edge.same("lazy(0, 0)", x.lazy(0, 0), 50);
    }

    private static void askersNoSuch() {
        Edge.of(19, "as bits of NODES; NONE if there is none such");
        ReplicaChain x = Told.of("spare s; member a; member b; member c; key x; key y;");
        Edge.same("askers(0), nothing", x.askers(0), 0);
        x.write(0, 5);
        int[] due = {2, 6, 6, 2, 0};
        for (int i = 0; i < due.length; i++) {
            Edge.same("askers(0) on tick " + i, x.askers(0), due[i]);
            Edge.same("askers(1) on tick " + i, x.askers(1), 0);
            x.tick();
        }
        others("askers", x::askers, -1, Edge.LOW, -1, 2, 3, 4, Edge.HIGH);
        Edge.none("askers(0) without keys", Told.of("member a;").askers(0));
        Edge.same("askers(0) without members", Told.of("key k;").askers(0), 0);
    }

    private static void staleNoSuch() {
        Edge.of(20, "MEMBERS whose LAZY is not what READ at the TAIL is, as bits of NODES; NONE if there is no such KEY.");
        ReplicaChain x = Told.of("spare s; member a; member b; member c; key x; key y;");
        x.write(0, 5);
        int[] due = {0, 0, 6, 2, 0};
        for (int i = 0; i < due.length; i++) {
            Edge.same("stale(0) on tick " + i, x.stale(0), due[i]);
            Edge.same("stale(1) on tick " + i, x.stale(1), 0);
            x.tick();
        }
        x.write(0, 5);
        Told.ticks(x, 2);
        Edge.same("another write of the like value", x.stale(0), 0);
        Edge.same("though they must ask", x.askers(0), 6);
        others("stale", x::stale, -1, Edge.LOW, -1, 2, 3, 4, Edge.HIGH);
        Edge.none("stale(0) without keys", Told.of("member a;").stale(0));
        Edge.same("stale(0) without members", Told.of("key k;").stale(0), 0);
    }

    private static void versionsCantBe() {
        Edge.of(21, "How many VERSIONS of a KEY a MEMBER has; NONE if one can't be.");
        ReplicaChain x = Told.of(Edge.THREE);
        Edge.same("versions(0, 0)", x.versions(0, 0), 0);
        others("versions(.., 0)", n -> x.versions(n, 0), -1, Edge.LOW, -1, 3, 4, 8, Edge.HIGH);
        others("versions(0, ..)", k -> x.versions(0, k), -1, Edge.LOW, -1, 2, 3, 4, Edge.HIGH);
        Edge.of(22, "The number of the i-th (0 ..) of them; NONE if there is none such.");
        Edge.none("version(0, 0, 0) of none", x.version(0, 0, 0));
        x.write(0, 1);
        others("version(.., 0, 0)", n -> x.version(n, 0, 0), -1, Edge.LOW, -1, 3, 4, 8, Edge.HIGH);
        others("version(0, .., 0)", k -> x.version(0, k, 0), -1, Edge.LOW, -1, 1, 2, 3, 4, Edge.HIGH);
        others("version(0, 0, ..)", i -> x.version(0, 0, i), -1, Edge.LOW, -1, 1, 2, 40, Edge.HIGH);
        Edge.same("version(0, 0, 0)", x.version(0, 0, 0), 1);
    }

    private static void versionsInOrder() {
        Edge.of(0, "the latest CLEAN WRITE of it (if there is one), then DIRTY ones, in order");
        ReplicaChain x = Told.of(Edge.TWO);
        x.write(0, 1);
        Edge.same("no clean one", x.versions(0, 0), 1);
        Told.ticks(x, 2);
        Edge.same("a clean one, the first write", x.versions(0, 0), 1);
        Edge.same("its number", x.version(0, 0, 0), 1);
        x.write(0, 1);
        x.write(1, 1);
        x.write(0, 1);
        int[] due = {1, 2, 4, -1};
        for (int i = 0; i < due.length; i++) {
            Edge.same("version(0, 0, " + i + ")", x.version(0, 0, i), due[i]);
        }
        Edge.same("versions(0, 0)", x.versions(0, 0), 3);
        Edge.same("no clean one: version(0, 1, 0)", x.version(0, 1, 0), 3);
        Edge.none("version(0, 1, 1)", x.version(0, 1, 1));
        Told.ticks(x, 2);
        Edge.same("the latest clean one alone", x.versions(0, 0), 1);
        Edge.same("its number", x.version(0, 0, 0), 4);
        versionsOfEachMember();
        x = filled(Edge.TWO);
        Edge.same("40 dirty ones", x.versions(0, 0), 40);
        Edge.same("the last of them", x.version(0, 0, 39), 40);
        Edge.none("version(0, 0, 40)", x.version(0, 0, 40));
        Told.ticks(x, 2);
        Edge.same("40 clean ones", x.versions(0, 0), 1);
    }

    private static void versionsOfEachMember() {
        ReplicaChain x = Told.of(Edge.THREE);
        for (int i = 0; i < 4; i++) {
            x.write(1, i);
            x.tick();
        }
        // The head has 4 and 1 is clean to it, the second has 4 and 2, the tail 3 and 3.
        int[][] due = {{1, 2, 3, 4, -1}, {2, 3, 4, -1, -1}, {3, -1, -1, -1, -1}};
        Edge.same("answered()", x.answered(), 1);
        for (int node = 0; node < 3; node++) {
            for (int i = 0; i < 5; i++) {
                Edge.same("version(" + node + ", 1, " + i + ")", x.version(node, 1, i), due[node][i]);
            }
            Edge.same("versions(" + node + ", 1)", x.versions(node, 1), 4 - node - node / 2);
        }
    }

    private static void willBounds() {
        Edge.of(23, "behind n TICKS (0 .. 60); losses as the SEED tells (what 1), none (0); NONE if one can't be, "
                + "or without MEMBERS");
        ReplicaChain x = Told.of(Edge.SIX + "slow 6;");
        x.write(0, 1);
        x.write(0, 2);
        for (int what = 0; what < 2; what++) {
            Edge.same("will(0, " + what + ")", x.will(0, what), 0);
            Edge.same("will(59, " + what + ")", x.will(59, what), 0);
            Edge.same("will(60, " + what + ")", x.will(60, what), 2);
        }
        others("will(.., 0)", n -> x.will(n, 0), -1, Edge.LOW, -1, 61, 62, 400, Edge.HIGH);
        others("will(.., 1)", n -> x.will(n, 1), -1, Edge.LOW, -1, 61, 62, 400, Edge.HIGH);
        others("will(5, ..)", what -> x.will(5, what), -1, Edge.LOW, -1, 2, 3, Edge.HIGH);
        Edge.none("without members", Told.of("spare s;").will(0, 0));
        Edge.none("without members", Told.of("spare s;").will(0, 1));
        Told.ticks(x, 60);
        Edge.same("all are answered: will(0, 0)", x.will(0, 0), 2);
    }

    private static void willWithLosses() {
        Edge.of(23, "losses as the SEED tells (what 1)");
        ReplicaChain x = Told.of(Edge.THREE + "slow 9; loss 100;");
        x.write(0, 1);
        // The seed is 71, 798, 397: the tail goes, then of two the head, and with it the write.
        Edge.same("will(1, 1)", x.will(1, 1), 0);
        Edge.same("will(60, 1), dropped", x.will(60, 1), 0);
        Edge.same("will(60, 0)", x.will(60, 0), 1);
        x = Told.of(Edge.TWO + "slow 9; loss 100;");
        x.write(0, 1);
        Edge.same("the tail goes: will(1, 1)", x.will(1, 1), 1);
        Edge.same("will(1, 0)", x.will(1, 0), 0);
        Edge.same("will(0, 1)", x.will(0, 1), 0);
    }

    private static void whenNone() {
        Edge.of(24, "NONE if the HEAD has it not, or not in these");
        ReplicaChain x = Told.of(Edge.THREE);
        Edge.none("when(1) of none", x.when(1));
        Edge.none("when(0) of none", x.when(0));
        x.write(0, 1);
        others("when", x::when, -1, Edge.LOW, -1, 0, 2, 40, 41, Edge.HIGH);
        x.lose(0);
        Edge.none("when(1), dropped", x.when(1));
        Edge.none("without members", Told.of("key k;").when(1));
        Edge.same("when(40)", filled(Edge.TWO).when(40), 2);
    }

    private static void whenFirst() {
        Edge.of(24, "Behind how many TICKS a WRITE is ANSWERED first (0 .. 400)");
        ReplicaChain x = Told.of(Edge.SIX + "slow 9;");
        x.write(0, 1);
        for (int left = 90; left >= 0; left--) {
            Edge.same("when(1)", x.when(1), left);
            x.tick();
        }
        Edge.same("when(1), answered long ago", x.when(1), 0);
        x = Told.of("spare p; member a; key x; copy 1; slow 9;");
        x.write(0, 1);
        Edge.same("of one alone at once", x.when(1), 0);
        x = Told.of(Edge.TWO + "copy 1; slow 2;");
        x.write(0, 1);
        x.join(2);
        Edge.same("by way of one that joins meanwhile", x.when(1), 8);
    }

    private static void stillFirst() {
        Edge.of(25, "Behind how many TICKS the chain is STILL first (0 .. 400).");
        Edge.same("a new one", new ReplicaChain().still(), 0);
        ReplicaChain x = Told.of(Edge.SIX + "slow 9; copy 9;");
        Edge.same("one told", x.still(), 0);
        x.write(0, 1);
        Edge.same("a message is under way", x.still(), 90);
        Told.ticks(x, 89);
        Edge.same("the last is under way", x.still(), 1);
        x.lose(4);
        x.join(6);
        Edge.same("one copies, too", x.still(), 9);
        Told.ticks(x, 8);
        Edge.same("one copies yet", x.still(), 1);
        x.tick();
        Edge.same("none does", x.still(), 0);
    }

    private static void dropsNone() {
        Edge.of(26, "NONE if some are not in the ROW, or none would be left");
        ReplicaChain x = Told.of("spare s; member a; member b; member c; spare t; key x;");
        x.write(0, 1);
        others("drops", x::drops, -1, 1, 3, 14, 15, 16, 18, 30, 31, 32, 64, 128, 256, 258, -1, Edge.LOW, Edge.HIGH,
                Edge.LOW + 2, 2 + (1 << 30));
        Edge.same("drops(0)", x.drops(0), 0);
        x.lose(2);
        Edge.none("drops(4), gone", x.drops(4));
        Edge.none("drops(10), all that are left", x.drops(10));
        Edge.none("of one alone", Told.of(Edge.ONE).drops(1));
        Edge.same("nobody of one alone", Told.of(Edge.ONE).drops(0), 0);
        Edge.none("without members", Told.of("").drops(0));
    }

    private static void dropsAtOnce() {
        Edge.of(26, "were some MEMBERS (as bits of NODES) all LOST now at once (those that none of the others HAS)");
        ReplicaChain x = Told.of("spare s; member a; member b; member c; key x;");
        x.write(0, 1);
        x.tick();
        x.write(0, 2);
        x.write(0, 3);
        int[][] due = {{0, 0}, {2, 2}, {4, 0}, {8, 0}, {6, 3}, {10, 2}, {12, 0}};
        for (int[] d : due) {
            Edge.same("drops(" + d[0] + ")", x.drops(d[0]), d[1]);
        }
        Told.ticks(x, 2);
        Edge.same("the last one has all: drops(6)", x.drops(6), 0);
    }

    private static void worstNone() {
        Edge.of(27, "By which n MEMBERS (1 .. 5) .. NONE if none would be left, or one can't be.");
        ReplicaChain x = Told.of(Edge.SIX);
        x.write(0, 1);
        for (int what = 0; what < 2; what++) {
            int w = what;
            others("worst(.., " + what + ")", n -> x.worst(n, w), -1, Edge.LOW, -1, 0, 6, 7, 8, Edge.HIGH);
            Edge.same("worst(5, " + what + ")", x.worst(5, what), what == 0 ? 1 : 31);
            Edge.none("worst(1, ..) of one", Told.of(Edge.ONE).worst(1, what));
            Edge.none("worst(2, ..) of two", Told.of(Edge.TWO).worst(2, what));
            Edge.none("worst(3, ..) of three", Told.of(Edge.THREE).worst(3, what));
            Edge.none("worst(1, ..) without members", Told.of("").worst(1, what));
        }
        others("worst(1, ..)", what -> x.worst(1, what), -1, Edge.LOW, -1, 2, 3, Edge.HIGH);
    }

    private static void worstLeast() {
        Edge.of(27, "1: which MEMBERS, as bits of NODES (of like ones the least)");
        ReplicaChain x = Told.of("spare s; member a; member b; member c; member d; key x;");
        Edge.same("nothing is lost: worst(1, 0)", x.worst(1, 0), 0);
        Edge.same("worst(1, 1)", x.worst(1, 1), 2);
        Edge.same("worst(2, 1)", x.worst(2, 1), 6);
        Edge.same("worst(3, 1)", x.worst(3, 1), 14);
        x.write(0, 1);
        x.tick();
        x.write(0, 2);
        Edge.same("worst(1, 0)", x.worst(1, 0), 1);
        Edge.same("worst(2, 0)", x.worst(2, 0), 2);
        Edge.same("worst(3, 0)", x.worst(3, 0), 2);
        x = Told.of("member a; member b; member c; key x; copy 1;");
        x.lose(0);
        x.join(0);
        x.tick();
        x.write(0, 1);
        Edge.row(x, 1, 2, 0);
        Edge.same("not the least, but the head: worst(1, 1)", x.worst(1, 1), 2);
        Edge.same("of like ones the least: worst(2, 1)", x.worst(2, 1), 3);
        x.tick();
        Edge.same("both that have it: worst(2, 1)", x.worst(2, 1), 6);
    }

    private static void safeNone() {
        Edge.of(28, "so that no ANSWERED WRITE is DROPPED; NONE without MEMBERS");
        Edge.none("without members", Told.of("spare a;").safe());
        Edge.none("a new one", new ReplicaChain().safe());
        Edge.same("one", Told.of(Edge.ONE).safe(), 0);
        Edge.same("six", Told.of(Edge.SIX).safe(), 5);
        ReplicaChain x = Told.of(Edge.THREE);
        x.write(0, 1);
        Edge.same("one that is not answered may go", x.safe(), 2);
        Told.ticks(x, 4);
        Edge.same("one that is answered all have", x.safe(), 2);
        x.lose(1);
        Edge.same("two are left", x.safe(), 1);
    }

    private static void answeredNone() {
        Edge.of(29, "How many WRITES are ANSWERED; NONE without MEMBERS.");
        Edge.none("without members", Told.of("spare a; key k;").answered());
        Edge.none("a new one", new ReplicaChain().answered());
        ReplicaChain x = filled(Edge.TWO);
        Edge.same("none", x.answered(), 0);
        Told.ticks(x, 2);
        Edge.same("40", x.answered(), 40);
    }

    private static void soonestNone() {
        Edge.of(30, "NODES lie there then, in order; NONE, nothing, without MEMBERS.");
        ReplicaChain x = Told.of("spare s;");
        Edge.none("soonest()", x.soonest());
        Edge.same("about(14)", x.about(14), 0);
        Edge.same("lies(0)", x.lies(0), -2);
        x = Told.of(Edge.SIX + "slow 9;");
        Edge.same("six", x.soonest(), 90);
        Edge.same("about(14)", x.about(14), 6);
        for (int i = 0; i < 6; i++) {
            Edge.same("lies(" + i + ")", x.lies(i), i);
        }
        Told.ticks(x, 1);
        x.lose(0);
        x.lose(3);
        Edge.same("what lay there lies there yet", x.about(14), 6);
        Edge.same("four", x.soonest(), 54);
        Edge.same("about(14)", x.about(14), 4);
        int[] order = {1, 2, 4, 5};
        for (int i = 0; i < 4; i++) {
            Edge.same("lies(" + i + ")", x.lies(i), order[i]);
        }
        Edge.same("lies(4)", x.lies(4), -2);
        x = Told.of(Edge.ONE);
        Edge.same("one alone", x.soonest(), 0);
        Edge.same("about(14)", x.about(14), 1);
        Edge.same("lies(0)", x.lies(0), 0);
    }

    private static void soonestFirstByNumbers() {
        Edge.of(0, "is ANSWERED behind the fewest TICKS; of like ones the first (by numbers)");
        ReplicaChain x = Told.of("member a; member b; member c; copy 1; slow 1 + (from = 0 and to = 1) * 5;");
        int[] order = {0, 2, 1};
        Edge.same("soonest()", x.soonest(), 4);
        for (int i = 0; i < 3; i++) {
            Edge.same("lies(" + i + ")", x.lies(i), order[i]);
        }
        x = Told.of("spare s; member a; member b; member c; copy 1;");
        x.lose(1);
        x.join(1);
        x.tick();
        Edge.row(x, 2, 3, 1);
        Edge.same("soonest()", x.soonest(), 4);
        for (int i = 0; i < 3; i++) {
            Edge.same("by numbers, not by places: lies(" + i + ")", x.lies(i), i + 1);
        }
        x = Told.of(Edge.SIX + "copy 1; slow 1 + (from = 7 or to = 7) * 2;");
        x.lose(0);
        x.join(7);
        x.tick();
        order = new int[] {1, 2, 3, 4, 5, 7};
        Edge.same("with the last of eight nodes: soonest()", x.soonest(), 14);
        for (int i = 0; i < 6; i++) {
            Edge.same("lies(" + i + ")", x.lies(i), order[i]);
        }
        x = Told.of("member a; member b; member c; slow 1 + back * (from < to) * 5 + (not back) * (from > to) * 3;");
        Edge.same("there up, back down again: soonest()", x.soonest(), 4);
        x = Told.of("member a; member b; member c; slow 1 + (to = 0) * 5;");
        Edge.same("to 0 is slow: soonest()", x.soonest(), 9);
        Edge.same("it is first or last: lies(0)", x.lies(0), 0);
        x = Told.of("member a; member b; member c; slow 1 + (from = 2) * 5 + (to = 0) * 4;");
        Edge.same("both are best at the ends: soonest()", x.soonest(), 13);
        Edge.same("lies(1)", x.lies(1), 1);
        x = Told.of("member a; member b; slow 1 + write * 2 + under * 3 + back;");
        Edge.same("write is 1, under is 0: soonest()", x.soonest(), 7);
    }

    private static void soonestNow() {
        Edge.of(0, "a WRITE (number 1), given now to a chain of them that HAS nothing");
        ReplicaChain x = Told.of(Edge.TWO + "slow 1 + tick % 3 + write * 2;");
        int[] due = {6, 9, 9};
        for (int i = 0; i < 3; i++) {
            Edge.same("on tick " + i, x.soonest(), due[i]);
            x.tick();
        }
        x = Told.of(Edge.THREE + "slow 1 + tick;");
        Edge.same("of three, each on its tick: 1, 2, 4 and 8", x.soonest(), 15);
        x.tick();
        Edge.same("of three, from tick 1 on: 2, 4, 8 and 9", x.soonest(), 23);
        x = Told.of(Edge.THREE + "slow 1 + under * 5 + (write > 1) * 3; copy 1;");
        x.write(0, 1);
        x.write(0, 2);
        x.join(3);
        Edge.same("whatever is under way and whoever copies", x.soonest(), 4);
        Edge.same("about(14)", x.about(14), 3);
    }

    private static void weedNone() {
        Edge.of(31, "NONE if there is none, or for another what");
        ReplicaChain x = Told.of(Edge.THREE);
        others("weed", x::weed, -1, Edge.LOW, -1, 2, 3, Edge.HIGH);
        Edge.none("one alone", Told.of(Edge.ONE).weed(0));
        Edge.none("one alone", Told.of(Edge.ONE).weed(1));
        Edge.none("without members", Told.of("").weed(0));
        Edge.none("without members", Told.of("").weed(1));
    }

    private static void weedNearest() {
        Edge.of(0, "no WRITE is DROPPED and all WRITES are ANSWERED behind the fewest TICKS; "
                + "of like ones the one nearest to the HEAD");
        ReplicaChain x = Told.of("spare s; member a; member b; member c; key x; copy 1;");
        Edge.same("of like ones the head", x.weed(0), 1);
        Edge.same("at once", x.weed(1), 0);
        x.lose(1);
        x.join(1);
        x.tick();
        Edge.same("by places, not by numbers", x.weed(0), 2);
        x.write(0, 1);
        Edge.same("with the head it would be dropped", x.weed(0), 3);
        Edge.same("behind", x.weed(1), 2);
        x = Told.of(Edge.THREE + "slow 1 + (from = 2 or to = 2) * 4;");
        x.write(0, 1);
        Edge.same("the slow one", x.weed(0), 2);
        Edge.same("behind", x.weed(1), 2);
        x = Told.of(Edge.TWO);
        x.write(0, 1);
        Edge.same("of two the tail", x.weed(0), 1);
        Edge.same("then all is answered at once", x.weed(1), 0);
        x = Told.of(Edge.THREE);
        x.write(0, 1);
        Told.ticks(x, 2);
        x.write(0, 2);
        Edge.same("all, not the first alone: weed(0)", x.weed(0), 1);
        Edge.same("weed(1)", x.weed(1), 2);
    }

    private static void fullestNone() {
        Edge.of(32, "FULLEST; NONE if there are not two MEMBERS.");
        Edge.none("one", Told.of(Edge.ONE).fullest());
        Edge.none("none", Told.of("").fullest());
        Edge.same("two", Told.of(Edge.TWO).fullest(), 0);
        ReplicaChain x = Told.of(Edge.TWO);
        x.lose(0);
        Edge.none("one is left", x.fullest());
    }

    private static void fullestFirst() {
        Edge.of(0, "the place behind which most messages are under way (both ways together); of like ones the first");
        ReplicaChain x = Told.of(Edge.THREE + "slow 1 + back * 4;");
        Edge.same("none is under way", x.fullest(), 0);
        x.write(0, 1);
        x.write(0, 1);
        x.tick();
        Edge.same("two down at the second", x.fullest(), 1);
        x.tick();
        Edge.same("two up at the second", x.fullest(), 1);
        x.write(0, 1);
        x.tick();
        Edge.same("two up, one down at the second", x.fullest(), 1);
        x.write(0, 1);
        x.write(0, 1);
        Edge.same("two at the first, three together at the second", x.fullest(), 1);
        x.write(0, 1);
        Edge.same("of like ones the first", x.fullest(), 0);
    }

    private static void tripNone() {
        Edge.of(33, "a WRITE given now would be ANSWERED (0 .. 400); NONE if it would be above 40, or without MEMBERS");
        ReplicaChain x = filled(Edge.TWO);
        Edge.none("above 40", x.trip());
        x.undo();
        Edge.same("the 40th", x.trip(), 2);
        Edge.none("without members", Told.of("spare s; key k;").trip());
        Edge.same("one alone", Told.of(Edge.ONE).trip(), 0);
        Edge.same("without keys", Told.of("member a; member b;").trip(), 2);
        Edge.same("the longest", Told.of(Edge.SIX + "slow 9;").trip(), 90);
        x = Told.of(Edge.TWO + "slow write + under * 2; copy 9;");
        x.write(0, 1);
        Edge.same("behind what is under way", x.trip(), 6);
    }

    private static void withoutNone() {
        Edge.of(34, "NONE, too, if it is DROPPED by that, it is not in the ROW, or alone");
        ReplicaChain x = Told.of(Edge.THREE);
        Edge.none("dropped with the head", x.without(0));
        Edge.same("the middle", x.without(1), 2);
        Edge.same("the tail", x.without(2), 2);
        others("without", x::without, -1, Edge.LOW, -1, 3, 4, 8, Edge.HIGH);
        x.lose(1);
        Edge.none("gone", x.without(1));
        Edge.same("then alone, at once", x.without(2), 0);
        Edge.none("alone", Told.of(Edge.ONE).without(0));
        Edge.none("without members", Told.of("spare s;").without(0));
        x = filled(Edge.TWO);
        Edge.none("above 40", x.without(1));
        x.undo();
        Edge.same("the 40th", x.without(1), 0);
        x = Told.of(Edge.THREE + "slow 1 + under * 3;");
        x.write(0, 1);
        Edge.same("sent anew behind the one ahead of it", x.without(1), 5);
    }

    private static void latestNone() {
        Edge.of(35, "0 if there is none; NONE if there is no such KEY, or without MEMBERS");
        ReplicaChain x = Told.of(Edge.TWO);
        Edge.same("latest(0) of none", x.latest(0), 0);
        x.write(1, 1);
        Edge.same("latest(0) of none", x.latest(0), 0);
        Edge.same("latest(1)", x.latest(1), 1);
        others("latest", x::latest, -1, Edge.LOW, -1, 2, 3, 4, Edge.HIGH);
        Edge.none("without members", Told.of("key k;").latest(0));
        Edge.none("without keys", Told.of("member a;").latest(0));
        Edge.same("latest(0)", filled(Edge.TWO).latest(0), 40);
        x.lose(0);
        Edge.same("dropped", x.latest(1), 0);
    }

    private static void trafficOfNone() {
        Edge.of(36, "All messages under way, together.");
        Edge.same("a new one", new ReplicaChain().traffic(), 0);
        Edge.same("one alone", filled(Edge.ONE).traffic(), 0);
        ReplicaChain x = filled(Edge.TWO);
        Edge.same("40 down", x.traffic(), 40);
        x.tick();
        Edge.same("40 up", x.traffic(), 40);
        x.tick();
        Edge.same("none", x.traffic(), 0);
        x = Told.of(Edge.SIX);
        for (int i = 0; i < 5; i++) {
            x.write(0, 1);
            x.tick();
        }
        Edge.same("everywhere one", x.traffic(), 5);
    }

    private static void lagNone() {
        Edge.of(37, "How many of the WRITES that the HEAD HAS a MEMBER HAS not; NONE if it is not in the ROW.");
        ReplicaChain x = Told.of(Edge.THREE);
        Edge.same("of none", x.lag(2), 0);
        x.write(0, 1);
        x.tick();
        x.write(0, 1);
        Edge.same("lag(0)", x.lag(0), 0);
        Edge.same("lag(1)", x.lag(1), 1);
        Edge.same("lag(2)", x.lag(2), 2);
        others("lag", x::lag, -1, Edge.LOW, -1, 3, 4, 8, Edge.HIGH);
        x.lose(1);
        Edge.none("gone", x.lag(1));
        Edge.none("without members", Told.of("spare s;").lag(0));
        Edge.same("40", filled(Edge.TWO).lag(1), 40);
    }

    private static void peakNone() {
        Edge.of(38, "behind 0 .. 60 TICKS: what 0: how many, 1: behind how many TICKS first; NONE without MEMBERS, "
                + "or for another what");
        // A write is one message at a time, down or up, so without losses there are never more than now.
        ReplicaChain x = Told.of(Edge.THREE + "slow 3;");
        Edge.same("none: peak(0)", x.peak(0), 0);
        Edge.same("none: peak(1)", x.peak(1), 0);
        x.write(0, 1);
        Told.ticks(x, 4);
        x.write(0, 1);
        Edge.same("two: peak(0)", x.peak(0), 2);
        Edge.same("two: peak(1)", x.peak(1), 0);
        others("peak", x::peak, -1, Edge.LOW, -1, 2, 3, Edge.HIGH);
        Edge.none("without members", Told.of("").peak(0));
        Edge.none("without members", Told.of("").peak(1));
        Edge.same("one alone", Told.of(Edge.ONE).peak(0), 0);
        Edge.same("40", filled(Edge.TWO).peak(0), 40);
    }

    private static void dirtiestNone() {
        Edge.of(39, "NONE if all have none, or for another what");
        ReplicaChain x = Told.of(Edge.THREE);
        for (int what = 0; what < 3; what++) {
            Edge.none("dirtiest(" + what + ") of none", x.dirtiest(what));
            Edge.none("dirtiest(" + what + ") without members", Told.of("key k;").dirtiest(what));
            Edge.none("dirtiest(" + what + ") without keys", Told.of("member a;").dirtiest(what));
        }
        x.write(0, 1);
        others("dirtiest", x::dirtiest, -1, Edge.LOW, -1, 3, 4, Edge.HIGH);
        Edge.same("dirtiest(2) of 40", filled(Edge.TWO).dirtiest(2), 40);
        Edge.same("dirtiest(0) of one alone", filled(Edge.ONE).dirtiest(0), 0);
        Edge.same("dirtiest(1) of one alone", filled(Edge.ONE).dirtiest(1), 0);
        Edge.same("dirtiest(2) of one alone", filled(Edge.ONE).dirtiest(2), 1);
    }

    private static void dirtiestNearest() {
        Edge.of(39, "(of like ones the nearest to the HEAD, then the first KEY)");
        ReplicaChain x = Told.of("member a; member b; member c; key x; key y; copy 1;");
        x.lose(0);
        x.join(0);
        x.tick();
        x.write(1, 1);
        x.write(0, 1);
        Told.ticks(x, 4);
        Edge.same("by places, not by numbers", x.dirtiest(0), 1);
        Edge.same("the first key", x.dirtiest(1), 0);
        Edge.same("how many", x.dirtiest(2), 1);
        x.write(1, 2);
        Edge.same("more of the second key", x.dirtiest(1), 1);
        Edge.same("how many", x.dirtiest(2), 2);
        x = Told.of(Edge.THREE);
        x.write(0, 1);
        x.write(0, 2);
        Told.ticks(x, 2);
        x.write(0, 3);
        x.tick();
        Edge.same("the head has three", x.dirtiest(0), 0);
        Edge.same("how many", x.dirtiest(2), 3);
        x.lose(0);
        Edge.same("the next has a clean and a dirty one", x.dirtiest(0), 1);
        Edge.same("how many", x.dirtiest(2), 2);
    }

    private static void soonestOfNone() {
        Edge.of(40, "NONE if none is under way, or for another what");
        ReplicaChain x = Told.of(Edge.THREE);
        for (int what = 0; what < 3; what++) {
            Edge.none("soonestOf(" + what + ") of none", x.soonestOf(what));
            Edge.none("soonestOf(" + what + ") of one alone", filled(Edge.ONE).soonestOf(what));
            Edge.none("soonestOf(" + what + ") without members", Told.of("").soonestOf(what));
        }
        x.write(0, 1);
        others("soonestOf", x::soonestOf, -1, Edge.LOW, -1, 3, 4, Edge.HIGH);
    }

    private static void soonestOf(ReplicaChain x, int place, int way, int ticks) {
        Edge.same("soonestOf(0)", x.soonestOf(0), place);
        Edge.same("soonestOf(1)", x.soonestOf(1), way);
        Edge.same("soonestOf(2)", x.soonestOf(2), ticks);
    }

    private static void soonestOfNearest() {
        Edge.of(40, "(of like ones the one nearest to the HEAD, DOWN ahead of UP)");
        ReplicaChain x = Told.of(Edge.THREE + "slow 2;");
        x.write(0, 1);
        soonestOf(x, 0, 0, 2);
        Told.ticks(x, 2);
        x.write(0, 2);
        soonestOf(x, 0, 0, 2);
        x.tick();
        x.write(0, 3);
        soonestOf(x, 0, 0, 1);
        x.tick();
        soonestOf(x, 0, 0, 1);
        x.tick();
        soonestOf(x, 1, 0, 1);
        x = Told.of(Edge.TWO);
        x.write(0, 1);
        x.tick();
        soonestOf(x, 0, 1, 1);
        x.write(0, 2);
        soonestOf(x, 0, 0, 1);
        x = Told.of(Edge.THREE);
        x.write(0, 1);
        Told.ticks(x, 3);
        x.write(0, 1);
        soonestOf(x, 0, 0, 1);
        x.undo();
        soonestOf(x, 0, 1, 1);
        x = Told.of(Edge.THREE + "slow 1 + (not back) * (to = 1) * 3;");
        x.write(0, 1);
        Told.ticks(x, 4);
        x.write(0, 1);
        soonestOf(x, 1, 0, 1);
        x.tick();
        soonestOf(x, 1, 1, 1);
    }

    private static void idleBits() {
        Edge.of(41, "NODES that are not in the ROW, as bits.");
        Edge.same("without nodes", Told.of("key k;").idle(), 0);
        Edge.same("eight spares", Told.of("spare a;spare b;spare c;spare d;spare e;spare f;spare g;spare h;").idle(),
                255);
        Edge.same("the last two of eight", Told.of(Edge.SIX).idle(), 192);
        Edge.same("none", Told.of("member a; member b;").idle(), 0);
        ReplicaChain x = Told.of(Edge.TWO + "copy 1;");
        x.join(2);
        Edge.same("who copies", x.idle(), 4);
        x.tick();
        Edge.same("who has joined", x.idle(), 0);
        x.lose(0);
        Edge.same("who is gone", x.idle(), 1);
    }

    private static void lawNone() {
        Edge.of(42, "n (1 .. 9); NONE if it would be above 40, without MEMBERS, or for another n");
        ReplicaChain x = Told.of(Edge.SIX + "slow 5;");
        others("law", x::law, -1, Edge.LOW, -1, 0, 10, 11, Edge.HIGH);
        Edge.same("law(1)", x.law(1), 10);
        Edge.same("law(9)", x.law(9), 90);
        ReplicaChain y = filled(Edge.TWO);
        Edge.none("above 40", y.law(1));
        y.undo();
        Edge.same("the 40th", y.law(1), 2);
        Edge.none("without members", Told.of("spare s;").law(1));
        Edge.same("one alone", Told.of(Edge.ONE).law(9), 0);
    }

    private static void lawFromNowOn() {
        Edge.of(42, "were all DELAYS from now on n");
        ReplicaChain x = Told.of(Edge.TWO + "slow 9;");
        x.write(0, 1);
        Edge.same("not ahead of what is under way", x.law(1), 10);
        Edge.same("delays are as told behind it", x.trip(), 18);
        x.write(0, 1);
        Edge.same("also those sent then", x.due(0, 0), 9);
        x = Told.of(Edge.TWO + "slow 1;");
        Edge.same("longer than told", x.law(9), 18);
        Edge.same("trip()", x.trip(), 2);
    }

    private static void oddsNone() {
        Edge.of(43, "ODDS (n 0 .. 4) the upper part (0), the lower part (1), in lowest terms (0 of 1); NONE if one can't be.");
        ReplicaChain x = Told.of(Edge.TWO + "loss 1;");
        for (int part = 0; part < 2; part++) {
            int p = part;
            Edge.same("odds(0, " + part + ")", x.odds(0, part), 1);
            others("odds(.., " + part + ")", n -> x.odds(n, p), -1, Edge.LOW, -1, 5, 6, Edge.HIGH);
        }
        others("odds(1, ..)", part -> x.odds(1, part), -1, Edge.LOW, -1, 2, 3, Edge.HIGH);
        Edge.same("odds(4, 0)", x.odds(4, 0), 96059601);
        Edge.same("odds(4, 1)", x.odds(4, 1), 100000000);
        ReplicaChain sure = Told.of(Edge.TWO + "loss 100;");
        ReplicaChain never = Told.of(Edge.TWO + "loss 0;");
        for (int n = 0; n <= 4; n++) {
            Edge.same("loss 100: odds(" + n + ", 0)", sure.odds(n, 0), n == 0 ? 1 : 0);
            Edge.same("loss 100: odds(" + n + ", 1)", sure.odds(n, 1), 1);
            Edge.same("loss 0: odds(" + n + ", 0)", never.odds(n, 0), 1);
            Edge.same("loss 0: odds(" + n + ", 1)", never.odds(n, 1), 1);
        }
    }

    private static void oddsLowest() {
        Edge.of(0, "ODDS: that there is no LOSS by draws in n TICKS, whatever the SEED is.");
        for (int loss = 0; loss <= 100; loss++) {
            ReplicaChain x = Told.of(Edge.TWO + "draw 7; loss " + loss + ";");
            for (int n = 0; n <= 4; n++) {
                long up = 1;
                long low = 1;
                for (int i = 0; i < n; i++) {
                    up *= 100 - loss;
                    low *= 100;
                }
                long upper = x.odds(n, 0);
                long lower = x.odds(n, 1);
                Edge.same("odds(" + n + ", ..) of loss " + loss, upper * low, lower * up);
                Edge.same("lowest terms of odds(" + n + ", ..) of loss " + loss, common(upper, lower), 1);
            }
        }
        for (int draw : new int[] {0, 7, 17, 44, 999}) {
            ReplicaChain x = Told.of(Edge.TWO + "loss 30; draw " + draw + ";");
            Edge.same("another seed", x.odds(1, 0) * 100 + x.odds(1, 1), 710);
        }
    }

    private static void oddsOfOne() {
        Edge.of(43, "and there are two MEMBERS or more");
        for (String text : new String[] {"loss 30;", "spare s; loss 30;", "member a; loss 30;", Edge.ONE + "loss 100;"}) {
            ReplicaChain x = Told.of(text);
            for (int n = 0; n <= 4; n++) {
                Edge.same("odds(" + n + ", 0) of " + text, x.odds(n, 0), 1);
                Edge.same("odds(" + n + ", 1) of " + text, x.odds(n, 1), 1);
            }
        }
        ReplicaChain x = Told.of(Edge.ONE + "loss 30; copy 3; draw 7;");
        x.join(1);
        int[] joining = {101, 101, 101, 710, 5000};
        for (int n = 0; n <= 4; n++) {
            Edge.same("of two behind the third tick: odds(" + n + ", ..)", x.odds(n, 0) * 100 + x.odds(n, 1), joining[n]);
        }
        x = Told.of(Edge.TWO + "loss 30;");
        x.lose(1);
        Edge.same("one is left: odds(4, 1)", x.odds(4, 1), 1);
        x.undo();
        Edge.same("two again: odds(4, 1)", x.odds(4, 1), 10000);
        x.join(2);
        Edge.same("of two or three alike: odds(4, 1)", x.odds(4, 1), 10000);
    }

    private static long common(long a, long b) {
        return b == 0 ? a : common(b, a % b);
    }

    private static void liesNone() {
        Edge.of(44, "The i-th number of what lies there; -2 if there is none such.");
        ReplicaChain x = Told.of(Edge.SIX);
        others("lies", x::lies, -2, Edge.LOW, -1, 0, 1, 6, Edge.HIGH);
        x.soonest();
        others("lies", x::lies, -2, Edge.LOW, -2, -1, 6, 7, Edge.HIGH);
        Edge.same("lies(0)", x.lies(0), 0);
        Edge.same("lies(5)", x.lies(5), 5);
        Told.lay(x, "copy 0;");
        x.chain();
        Edge.same("lies(5) behind a fault", x.lies(5), 5);
        x.end(0);
        x.chain();
        Edge.same("lies(0) behind another chain", x.lies(0), -2);
    }
}
