/** The boundary cases of what is SEEN and known when: terms, part 4, and the promises 45 to 50. */
final class SeenEdges {
    private SeenEdges() {
    }

    static void run() {
        seenRefused();
        seenThirty();
        seenNumbers();
        untellNone();
        untellLaterOrTheSame();
        laterRefused();
        laterBounds();
        knownAt();
        timeStays();
        ofTheChainAsTold();
        answeredBehindSoMany();
        oneOrNoneWasLost();
        ofOneNoneCanBeLost();
        fitsNone();
        culpritNone();
        askNone();
        askFewest();
        askLeast();
        askBehindSixty();
    }

    private static void seenRefused() {
        Edge.of(45, "A SEEN (TICKS 0 .. 60): its number; NONE, doing nothing, if one can't be, there are 30, "
                + "or no MEMBERS were told.");
        for (int wrong : new int[] {Edge.LOW, -1, 61, 62, Edge.HIGH}) {
            Edge.refused("seen(" + wrong + ", true)", y -> y.seen(wrong, true));
            Edge.refused("seen(" + wrong + ", false)", y -> y.seen(wrong, false));
        }
        ReplicaChain x = Told.of(Edge.THREE);
        Edge.same("seen(0, false)", x.seen(0, false), 0);
        Edge.same("seen(60, false)", x.seen(60, false), 1);
        Edge.none("a new one", new ReplicaChain().seen(0, true));
        Edge.idle("no members were told", y -> {
            Told.lay(y, "spare s; key k;");
            y.chain();
        }, y -> y.seen(0, true), ReplicaChain.NONE);
    }

    private static void seenThirty() {
        Edge.of(45, "there are 30");
        ReplicaChain x = Told.of(Edge.THREE);
        for (int i = 0; i < 30; i++) {
            Edge.same("seen", x.seen(4, true), i);
        }
        Edge.same("about(10)", x.about(10), 30);
        Edge.none("seen, one more", x.seen(0, true));
        Edge.same("it does nothing: fits(0)", x.fits(0), 3);
        x.untell(0);
        Edge.none("seen, though one is untold", x.seen(0, true));
        Edge.same("about(10)", x.about(10), 30);
        Edge.no("untell(30)", x.untell(30));
        Edge.yes("untell(29)", x.untell(29));
        x.end(0);
        Told.lay(x, Edge.THREE);
        x.chain();
        Edge.same("behind another chain", x.seen(4, true), 0);
    }

    private static void seenNumbers() {
        Edge.of(45, "its number");
        ReplicaChain x = Told.of(Edge.THREE);
        x.seen(4, true);
        x.untell(0);
        Edge.same("one that is untold keeps its number", x.seen(4, true), 1);
        Edge.same("about(10)", x.about(10), 2);
    }

    private static void untellNone() {
        Edge.of(46, "It is UNTOLD: true; false if it is so already, or there is none such.");
        Edge.idle("untell(1), it is so already", Edge::busy, y -> y.untell(1) ? 1 : 0, 0);
        for (int wrong : new int[] {Edge.LOW, -1, 2, 3, 29, 30, 31, Edge.HIGH}) {
            Edge.idle("untell(" + wrong + ")", Edge::busy, y -> y.untell(wrong) ? 1 : 0, 0);
        }
        Edge.no("a new one", new ReplicaChain().untell(0));
        ReplicaChain x = Told.of(Edge.THREE);
        x.seen(0, true);
        Edge.yes("untell(0)", x.untell(0));
        Edge.no("untell(0) again", x.untell(0));
        x.later(5);
        Edge.no("untell(0) later", x.untell(0));
        Edge.same("it is untold as of before: fits(0)", x.fits(0), 4);
        x.seen(0, true);
        Told.lay(x, Edge.THREE);
        x.chain();
        Edge.no("untell(0) behind another chain", x.untell(0));
        Edge.no("untell(1) behind another chain", x.untell(1));
    }

    private static void untellLaterOrTheSame() {
        Edge.of(0, "is TOLD at a TIME (0 at first, goes on), UNTOLD at a later one or the same");
        ReplicaChain x = Told.of(Edge.THREE);
        x.seen(0, true);
        Edge.same("told at 0: fits(0)", x.fits(0), 0);
        x.untell(0);
        for (int k : new int[] {-1, 0, 1}) {
            Edge.same("told and untold at 0: fits(" + k + ")", x.fits(k), 4);
        }
        x.later(1);
        x.seen(0, true);
        x.later(1);
        x.untell(1);
        int[] due = {4, 0, 4, 4};
        for (int k = 0; k < 4; k++) {
            Edge.same("told at 1, untold at 2: fits(" + k + ")", x.fits(k), due[k]);
        }
    }

    private static void laterRefused() {
        Edge.of(47, "NONE, doing nothing, for another number, or if it would be above 100,000.");
        for (int wrong : new int[] {Edge.LOW, -1000, -1, 1001, 1002, Edge.HIGH}) {
            Edge.refused("later(" + wrong + ")", y -> y.later(wrong));
        }
        ReplicaChain x = new ReplicaChain();
        for (int i = 1; i <= 99; i++) {
            x.later(1000);
        }
        x.later(1);
        Edge.none("above 100,000 by 1", x.later(1000));
        Edge.same("the time", x.about(11), 99001);
        Edge.same("to 100,000", x.later(999), 100000);
        Edge.none("later(1)", x.later(1));
        Edge.none("later(1000)", x.later(1000));
        Edge.same("later(0)", x.later(0), 100000);
    }

    private static void laterBounds() {
        Edge.of(47, "So much later (0 .. 1000): the TIME");
        ReplicaChain x = new ReplicaChain();
        Edge.same("0 at first", x.about(11), 0);
        Edge.same("later(0)", x.later(0), 0);
        Edge.same("later(1)", x.later(1), 1);
        Edge.same("later(999)", x.later(999), 1000);
        Edge.same("later(1000)", x.later(1000), 2000);
        Edge.same("about(11)", x.about(11), 2000);
    }

    private static void knownAt() {
        Edge.of(0, "As known at k that counts that was TOLD at k or before, not UNTOLD at k or before.");
        ReplicaChain x = Told.of(Edge.THREE);
        x.later(10);
        x.seen(3, false);
        x.later(10);
        x.seen(4, true);
        x.later(10);
        x.untell(0);
        x.later(10);
        x.untell(1);
        int[][] due = {{Edge.LOW, 4}, {-1, 4}, {0, 4}, {9, 4}, {10, 2}, {19, 2}, {20, 1}, {29, 1}, {30, 3}, {39, 3},
            {40, 4}, {41, 4}, {100000, 4}, {Edge.HIGH, 4}};
        for (int[] d : due) {
            Edge.same("fits(" + d[0] + ")", x.fits(d[0]), d[1]);
        }
        Edge.same("culprit(0, 9)", x.culprit(0, 9), -1);
        Edge.same("culprit(1, 10), the head", x.culprit(1, 10), 0);
        Edge.same("culprit(1, 20)", x.culprit(1, 20), -2);
        Edge.same("culprit(1, 30)", x.culprit(1, 30), 1);
        Edge.same("ask(1, 9)", x.ask(1, 9), 2);
        Edge.same("ask(1, 20)", x.ask(1, 20), 1);
    }

    private static void timeStays() {
        Edge.of(4, "nothing is SEEN .. the TIME stays");
        ReplicaChain x = Told.of(Edge.THREE);
        x.seen(0, true);
        x.later(7);
        Told.lay(x, Edge.THREE);
        x.chain();
        Edge.same("about(10)", x.about(10), 0);
        Edge.same("about(11)", x.about(11), 7);
        Edge.same("fits(7)", x.fits(7), 4);
        x.seen(0, true);
        Edge.same("told at 7: fits(6)", x.fits(6), 4);
        Edge.same("told at 7: fits(7)", x.fits(7), 0);
    }

    private static void ofTheChainAsTold() {
        Edge.of(0, "of the chain as it was told, to which a WRITE was given on tick 0");
        String text = Edge.THREE + "slow 1 + tick + write + from; copy 1; loss 100; draw 7;";
        // None lost: 2 down on tick 0, 5 on tick 2, 9 up and 9; without the second 2 and 6; without the third 2 and 5.
        int[][] due = {{25, -1}, {8, 1}, {7, 2}};
        for (int[] d : due) {
            ReplicaChain x = Told.of(text);
            x.seen(d[0] - 1, false);
            x.seen(d[0], true);
            culprits(x, d[1]);
            x.write(0, 1);
            x.tick();
            x.write(0, 2);
            x.join(3);
            x.tick();
            x.tick();
            culprits(x, d[1]);
            x.seen(d[0] - 1, false);
            x.seen(d[0], true);
            culprits(x, d[1]);
        }
    }

    private static void answeredBehindSoMany() {
        Edge.of(0, "that behind so many TICKS (0 .. 60) it was ANSWERED (the WRITE number 1 is CLEAN to the HEAD), or was not");
        for (int ticks = 0; ticks <= 60; ticks++) {
            ReplicaChain x = Told.of(Edge.SIX + "slow 6;");
            x.seen(ticks, true);
            // None lost: behind 60; one of the last five: behind 48; the head: never.
            Edge.same("answered behind " + ticks, x.fits(0), ticks < 48 ? 0 : ticks < 60 ? 5 : 6);
            x.untell(0);
            x.seen(ticks, false);
            Edge.same("not answered behind " + ticks, x.fits(0), ticks < 48 ? 7 : ticks < 60 ? 2 : 1);
        }
        ReplicaChain x = Told.of(Edge.ONE);
        x.seen(0, true);
        Edge.same("of one alone behind 0", x.fits(0), 1);
        x.seen(0, false);
        Edge.same("both can't be", x.fits(0), 0);
    }

    private static void culprits(ReplicaChain x, int... due) {
        Edge.same("fits(0)", x.fits(0), due.length);
        for (int i = 0; i < due.length; i++) {
            Edge.same("culprit(" + i + ", 0)", x.culprit(i, 0), due[i]);
        }
        Edge.same("culprit(" + due.length + ", 0)", x.culprit(due.length, 0), -2);
    }

    private static void oneOrNoneWasLost() {
        Edge.of(0, "FITS: places (of a chain of one none can be LOST), and -1 for none, by which all that counts is so.");
        culprits(Told.of(Edge.SIX), -1, 0, 1, 2, 3, 4, 5);
        culprits(Told.of(Edge.TWO), -1, 0, 1);
        ReplicaChain x = Told.of("spare s; member a; spare t; member b;");
        culprits(x, -1, 0, 1);
        x.seen(0, true);
        culprits(x, 1);
        x = Told.of("spare s; member a; spare t; member b;");
        x.seen(60, false);
        culprits(x, 0);
        x = Told.of(Edge.THREE + "slow 1 + (to = 1 or from = 1) * 2;");
        // Behind 12 if none was lost, 2 without the second, 6 without the third.
        x.seen(2, true);
        culprits(x, 1);
        x.untell(0);
        x.seen(5, false);
        x.seen(6, true);
        culprits(x, 2);
        x.untell(1);
        x.untell(2);
        x.seen(11, false);
        x.seen(12, true);
        culprits(x, -1);
        x = Told.of(Edge.THREE + "slow 1 + tick;");
        // Without the second the first sends anew on tick 0: 1 down, 2 up.
        x.seen(3, true);
        culprits(x, 1, 2);
        x.seen(2, true);
        culprits(x);
        x = Told.of(Edge.THREE + "slow 2 + back * 3 + under * 5 + write;");
        // 3 down and 6 up: 9 without one of the last, 18 if none was lost.
        x.seen(9, true);
        culprits(x, 1, 2);
        x.untell(0);
        x.seen(8, false);
        x.seen(18, true);
        culprits(x, -1, 1, 2);
        x.seen(17, false);
        culprits(x, -1);
    }

    private static void ofOneNoneCanBeLost() {
        Edge.of(0, "(of a chain of one none can be LOST)");
        ReplicaChain x = Told.of(Edge.ONE);
        culprits(x, -1);
        x.seen(60, false);
        culprits(x);
        x = Told.of(Edge.TWO);
        x.lose(0);
        culprits(x, -1, 0, 1);
    }

    private static void fitsNone() {
        Edge.of(48, "FITS: how many (0 without MEMBERS told).");
        for (int k : new int[] {Edge.LOW, -1, 0, 1, Edge.HIGH}) {
            Edge.same("without members: fits(" + k + ")", Told.of("spare s;").fits(k), 0);
            Edge.same("a new one: fits(" + k + ")", new ReplicaChain().fits(k), 0);
            Edge.same("six: fits(" + k + ")", Told.of(Edge.SIX).fits(k), 7);
        }
        ReplicaChain x = Told.of(Edge.SIX);
        x.chain();
        Edge.same("behind an empty chain", x.fits(0), 0);
    }

    private static void culpritNone() {
        Edge.of(49, "The i-th (0 ..) of FITS, from -1 on; -2 if there is none such.");
        ReplicaChain x = Told.of(Edge.SIX);
        for (int wrong : new int[] {Edge.LOW, -2, -1, 7, 8, Edge.HIGH}) {
            Edge.same("culprit(" + wrong + ", 0)", x.culprit(wrong, 0), -2);
        }
        Edge.same("culprit(0, 0)", x.culprit(0, 0), -1);
        Edge.same("culprit(6, 0)", x.culprit(6, 0), 5);
        Edge.same("without members", Told.of("spare s;").culprit(0, 0), -2);
        Edge.same("a new one", new ReplicaChain().culprit(0, 0), -2);
    }

    private static void askNone() {
        Edge.of(50, "NONE if none FITS, or for another what");
        ReplicaChain x = Told.of(Edge.THREE);
        for (int wrong : new int[] {Edge.LOW, -1, 2, 3, Edge.HIGH}) {
            Edge.none("ask(" + wrong + ", 0)", x.ask(wrong, 0));
        }
        x.later(3);
        x.seen(0, true);
        for (int what = 0; what < 2; what++) {
            Edge.same("ask(" + what + ", 2)", x.ask(what, 2), 2);
            Edge.none("none fits: ask(" + what + ", 3)", x.ask(what, 3));
            Edge.none("without members: ask(" + what + ", 0)", Told.of("spare s;").ask(what, 0));
            Edge.none("a new one: ask(" + what + ", 0)", new ReplicaChain().ask(what, 0));
        }
    }

    private static void askFewest() {
        Edge.of(0, "behind which to know whether it was ANSWERED would leave the fewest of these at the most");
        ReplicaChain x = Told.of(Edge.THREE + "slow 1 + (to = 1 or from = 1) * 2;");
        // Never without the first, behind 2 without the second, 6 without the third, 12 if none was lost.
        Edge.same("two and two: ask(0, 0)", x.ask(0, 0), 6);
        Edge.same("ask(1, 0)", x.ask(1, 0), 2);
        x.seen(2, false);
        Edge.same("one and two: ask(0, 0)", x.ask(0, 0), 6);
        Edge.same("ask(1, 0)", x.ask(1, 0), 2);
        x.seen(6, false);
        Edge.same("one and one: ask(0, 0)", x.ask(0, 0), 12);
        Edge.same("ask(1, 0)", x.ask(1, 0), 1);
    }

    private static void askLeast() {
        Edge.of(0, "of like ones the least");
        ReplicaChain x = Told.of(Edge.ONE);
        Edge.same("one fits: ask(0, 0)", x.ask(0, 0), 0);
        Edge.same("one fits: ask(1, 0)", x.ask(1, 0), 1);
        x = Told.of(Edge.TWO + "slow 9;");
        // Behind 0 without the tail, 18 if none was lost, never without the head.
        Edge.same("behind 0 or 18: ask(0, 0)", x.ask(0, 0), 0);
        Edge.same("ask(1, 0)", x.ask(1, 0), 2);
        x.seen(0, false);
        Edge.same("behind 18 .. 60: ask(0, 0)", x.ask(0, 0), 18);
    }

    private static void askBehindSixty() {
        Edge.of(0, "ASK: the number of TICKS (0 .. 60)");
        ReplicaChain x = Told.of(Edge.SIX + "slow 6;");
        x.seen(59, false);
        Edge.same("behind 60: ask(0, 0)", x.ask(0, 0), 60);
        Edge.same("ask(1, 0)", x.ask(1, 0), 1);
        x = Told.of(Edge.SIX + "slow 6 + (back and from = 1);");
        x.seen(59, false);
        Edge.same("behind 61 can't be told from never: ask(0, 0)", x.ask(0, 0), 0);
        Edge.same("ask(1, 0)", x.ask(1, 0), 2);
    }
}
