/** The boundary cases of how a chain goes: terms, part 2. */
final class ChainEdges {
    private ChainEdges() {
    }

    static void run() {
        oneAlone();
        nothingAtFirst();
        delayTicksLater();
        notAheadOfTheOneBefore();
        onlyThatWayBetweenThese();
        delayIfNotTold();
        delayBounds();
        factsOfDelay();
        underCountsItsSort();
        underInOrderOfPlaces();
        wrapping();
        cutAndRest();
        byZero();
        oneOrZero();
        longFormulas();
        tailIsClean();
        sentAtOnce();
        answeredAtTheHead();
        fortyAtMost();
        joinsIfNoneIsLeft();
        joinHasWhatTheTailHad();
        lossOfTheHead();
        lossOfTheTail();
        lossOfTheTailCopying();
        lossInTheMiddle();
        seedModulo();
        restLessThanLoss();
        twoMembersOrMore();
        placeOfTheLost();
        drawBehindTheTick();
    }

    private static int delayOf(String slow) {
        ReplicaChain x = Told.of(Edge.TWO + "slow " + slow + ";");
        x.write(0, 0);
        return x.due(0, 0);
    }

    private static void came(ReplicaChain x, int... counts) {
        for (int i = 0; i < counts.length; i++) {
            Edge.same("tick(), number " + (i + 1), x.tick(), counts[i]);
        }
    }

    private static void oneAlone() {
        Edge.of(0, "one alone is both");
        ReplicaChain x = Told.of(Edge.ONE);
        Edge.same("write(0, 5)", x.write(0, 5), 1);
        Edge.same("it has it", x.node(0, 1), 1);
        Edge.same("as the tail it has it clean", x.node(0, 2), 1);
        Edge.same("as it is the head, too, it is answered", x.wrote(1, 2), 1);
        Edge.same("nothing is sent", x.traffic(), 0);
        Edge.same("tick()", x.tick(), 0);
    }

    private static void nothingAtFirst() {
        Edge.of(0, "(0, 0 at first)");
        ReplicaChain x = Told.of(Edge.SIX);
        for (int node = 0; node < 8; node++) {
            Edge.same("has of " + node, x.node(node, 1), 0);
            Edge.same("clean to " + node, x.node(node, 2), 0);
        }
    }

    private static void delayTicksLater() {
        Edge.of(0, "sent on a tick, it comes DELAY ticks later");
        ReplicaChain x = Told.of(Edge.TWO + "slow 9;");
        x.tick();
        x.write(0, 0);
        came(x, 0, 0, 0, 0, 0, 0, 0, 0, 1);
        came(x, 0, 0, 0, 0, 0, 0, 0, 0, 1);
        Edge.same("answered()", x.answered(), 1);
    }

    private static void notAheadOfTheOneBefore() {
        Edge.of(0, "but not ahead of the one sent before it that way between these");
        ReplicaChain x = Told.of(Edge.TWO + "slow 6 - write * 2;");
        x.write(0, 0);
        x.write(0, 0);
        came(x, 0, 0, 0, 2);
        x = Told.of(Edge.TWO + "slow 1 + back * (6 - write * 2);");
        x.write(0, 0);
        x.write(0, 0);
        came(x, 2, 0, 0, 0, 0, 2);
        x = Told.of(Edge.TWO + "slow 9 - tick * 4;");
        x.write(0, 0);
        x.tick();
        x.write(0, 0);
        x.tick();
        x.write(0, 0);
        came(x, 0, 0, 0, 0, 0, 0, 3);
    }

    private static void onlyThatWayBetweenThese() {
        Edge.of(0, "that way between these");
        ReplicaChain x = Told.of(Edge.TWO + "slow 1 + back * 8;");
        x.write(0, 0);
        x.tick();
        x.write(0, 0);
        Edge.same("up takes long", x.due(0, 1), 9);
        Edge.same("down does not wait for up", x.tick(), 1);
        x = Told.of(Edge.THREE + "slow 1 + from * 8;");
        x.write(0, 0);
        x.tick();
        x.write(0, 0);
        Edge.same("between the last two", x.due(1, 0), 9);
        Edge.same("between the first two", x.due(0, 0), 1);
    }

    private static void delayIfNotTold() {
        Edge.of(0, "DELAY is what comes of slow (1, if it is not told)");
        ReplicaChain x = Told.of(Edge.THREE);
        x.write(0, 0);
        came(x, 1, 1, 1, 1, 0);
    }

    private static void delayBounds() {
        Edge.of(0, "1 at least, 9 at most");
        Edge.same("0 - 1", delayOf("0 - 1"), 1);
        Edge.same("0", delayOf("0"), 1);
        Edge.same("1", delayOf("1"), 1);
        Edge.same("2", delayOf("2"), 2);
        Edge.same("8", delayOf("8"), 8);
        Edge.same("9", delayOf("9"), 9);
        Edge.same("10", delayOf("10"), 9);
        Edge.same("9999", delayOf("9999"), 9);
        Edge.same("the least int", delayOf("2048*1024*1024"), 1);
        Edge.same("the most int", delayOf("2048*1024*1024 - 1"), 9);
    }

    private static void factsOfDelay() {
        Edge.of(0, "by from, to (numbers of both NODES), write (its number), under, back (1 of an UP one, else 0), "
                + "tick (now; 0 at first)");
        String nodes = "spare s; spare t; member a; spare u; member b; key x; slow ";
        String[] facts = {"from", "to", "write", "under", "back * 5", "tick"};
        int[] down = {2, 4, 1, 1, 1, 1};
        int[] up = {4, 2, 1, 1, 5, 3};
        for (int i = 0; i < facts.length; i++) {
            // Up must be sent on tick 3, whatever the fact says of the way down.
            ReplicaChain x = Told.of(nodes + "(not back) * 3 + back * " + facts[i] + ";");
            x.write(0, 0);
            Told.ticks(x, 3);
            Edge.same("up, " + facts[i], x.due(0, 1), Math.max(1, up[i]));
            x = Told.of(nodes + facts[i] + ";");
            x.write(0, 0);
            Edge.same("down, " + facts[i], x.due(0, 0), down[i]);
        }
        ReplicaChain x = Told.of(nodes + "9 - tick;");
        x.write(0, 0);
        Edge.same("on tick 0", x.due(0, 0), 9);
        x = Told.of(nodes + "write * 2;");
        x.write(0, 0);
        Told.ticks(x, 4);
        x.write(0, 0);
        Edge.same("the second write", x.due(0, 0), 4);
    }

    private static void underCountsItsSort() {
        Edge.of(0, "under (how many messages of that sort are under way between both ahead of it)");
        ReplicaChain x = Told.of(Edge.TWO + "slow 1 + under * 3;");
        for (int i = 0; i < 3; i++) {
            x.write(0, 0);
        }
        // Due on the ticks 1, 4 and 7; the answers, each alone on its way, on 2, 5 and 8.
        came(x, 1, 1, 0, 1, 1, 0, 1, 1, 0);
        x.write(0, 0);
        x.tick();
        x.write(0, 0);
        Edge.same("an answer under way does not count", x.due(0, 0), 1);
        x = Told.of(Edge.TWO + "slow 1 + back * (1 + under * 3);");
        for (int i = 0; i < 3; i++) {
            x.write(0, 0);
        }
        // All come on tick 1; the answers are due 2, 5 and 8 behind it.
        came(x, 3, 0, 1, 0, 0, 1, 0, 0, 1, 0);
        x = Told.of(Edge.THREE + "slow 1 + under * 3 + from * 4;");
        x.write(0, 0);
        x.tick();
        x.write(0, 0);
        Edge.same("one between others does not count", x.due(0, 0), 1);
    }

    private static void underInOrderOfPlaces() {
        Edge.of(0, "place by place from the HEAD on: all DOWN messages behind that place that are due come, in order; "
                + "then place by place from the TAIL's on back: all UP ones that are due come, in order");
        ReplicaChain x = Told.of(Edge.THREE + "slow 1 + under * 4;");
        x.write(0, 0);
        x.tick();
        x.write(0, 0);
        came(x, 2);
        Edge.same("the first one was under way yet as the second was sent", x.due(1, 0), 5);
        x = Told.of(Edge.THREE + "slow 1 + under * back * (to = 0) * 4;");
        x.write(0, 0);
        x.tick();
        x.write(0, 0);
        came(x, 2, 2, 2);
        Edge.same("so was the first answer", x.due(0, 1), 5);
        x = Told.of(Edge.TWO + "slow 1 + under * back * 4;");
        x.write(0, 0);
        x.tick();
        x.write(0, 0);
        came(x, 2);
        Edge.same("down comes ahead of up", x.due(0, 1), 5);
    }

    private static void wrapping() {
        Edge.of(0, "ints, wrapping");
        Edge.same("*", delayOf("(9999*9999*9999 < 0) * 4 + 2"), (9999 * 9999 * 9999 < 0 ? 4 : 0) + 2);
        Edge.same("* to 0", delayOf("2048*2048*1024 + 3"), 3);
        Edge.same("* to the least", delayOf("(2048*1024*1024 < 0) * 4 + 2"), 6);
        Edge.same("+ behind the most", delayOf("(2048*1024*1024 - 1 + 1 < 0) * 4 + 2"), 6);
        Edge.same("- ahead of the least", delayOf("(2048*1024*1024 - 1 > 0) * 4 + 2"), 6);
        Edge.same("the least / -1", delayOf("(2048*1024*1024 / (0-1) < 0) * 4 + 2"), 6);
        Edge.same("the least % -1", delayOf("2048*1024*1024 % (0-1) + 3"), 3);
        Edge.same("the least is less than the most", delayOf("(2048*1024*1024 < 2048*1024*1024-1) * 4 + 2"), 6);
    }

    private static void cutAndRest() {
        Edge.of(0, "/ cut, % its rest");
        Edge.same("7 / 2", delayOf("7 / 2"), 3);
        Edge.same("-7 / 2", delayOf("(0-7) / 2 + 9"), 6);
        Edge.same("7 / -2", delayOf("7 / (0-2) + 9"), 6);
        Edge.same("-7 / -2", delayOf("(0-7) / (0-2)"), 3);
        Edge.same("1 / 2", delayOf("1 / 2 + 4"), 4);
        Edge.same("7 % 4", delayOf("7 % 4"), 3);
        Edge.same("-7 % 4", delayOf("(0-7) % 4 + 9"), 6);
        Edge.same("7 % -4", delayOf("7 % (0-4)"), 3);
        Edge.same("-7 % -4", delayOf("(0-7) % (0-4) + 9"), 6);
        Edge.same("8 % 4", delayOf("8 % 4 + 5"), 5);
    }

    private static void byZero() {
        Edge.of(0, "both by 0: 0");
        Edge.same("7 / 0", delayOf("7 / 0 + 4"), 4);
        Edge.same("7 % 0", delayOf("7 % 0 + 4"), 4);
        Edge.same("0 / 0", delayOf("0 / 0 + 4"), 4);
        Edge.same("0 % 0", delayOf("0 % 0 + 4"), 4);
        Edge.same("by a tick of 0", delayOf("7 / tick + 7 % tick + 4"), 4);
    }

    private static void oneOrZero() {
        Edge.of(0, "relations, and, or, not are 1 or 0, of what is not 0");
        String[] ones = {"2 < 3", "3 > 2", "3 = 3", "5 and 7", "(0-1) and 1", "5 or 0", "0 or 7", "5 or 7", "not 0",
            "not not 9", "not 3 < 2", "not 0 and 1", "1 or 0 and 0"};
        String[] zeros = {"3 < 3", "3 < 2", "3 > 3", "2 > 3", "2 = 3", "5 and 0", "0 and 7", "0 and 0", "0 or 0",
            "not 1", "not 9", "not (0-1)", "not 2 < 3", "(1 or 1) and 0"};
        for (String one : ones) {
            Edge.same(one, delayOf("(" + one + ") * 2 + 3"), 5);
        }
        for (String zero : zeros) {
            Edge.same(zero, delayOf("(" + zero + ") * 2 + 3"), 3);
        }
    }

    private static void longFormulas() {
        Edge.of(0, "30 in one e (a unit ( e ), or a one behind not, within 6 others at most)");
        String not = "not not not not not not ";
        StringBuilder nots = new StringBuilder(not + "1");
        for (int i = 1; i < 27; i++) {
            nots.append(" and ").append(not).append("1");
        }
        Edge.same("as many nots as can be", delayOf("(" + nots + ") * 4 + 2"), 6);
        Edge.same("one of them is 0", delayOf("(" + nots.substring(0, nots.length() - 1) + "0) * 4 + 2"), 2);
        String inner = "1";
        for (int i = 0; i < 4; i++) {
            inner = "(0 or 1 and 0 < 1 + 1 * " + inner + ")";
        }
        Edge.same("as much to the right as can be", delayOf("3 + 2 * " + inner), 5);
        StringBuilder ones = new StringBuilder("1");
        for (int i = 1; i < 27; i++) {
            ones.append(i % 2 == 0 ? "+1" : "-1");
        }
        Edge.same("thirty units", delayOf("3*(" + ones + ")+1"), 4);
    }

    private static void tailIsClean() {
        Edge.of(0, "What the TAIL HAS is CLEAN to it.");
        ReplicaChain x = Told.of(Edge.THREE);
        x.write(0, 0);
        x.write(0, 0);
        Told.ticks(x, 2);
        Edge.same("has", x.node(2, 1), 2);
        Edge.same("clean", x.node(2, 2), 2);
        Edge.same("clean to the one ahead", x.node(1, 2), 0);
    }

    private static void sentAtOnce() {
        Edge.of(0, "one that is not the TAIL sends it DOWN at once, the TAIL sends UP at once that it is CLEAN");
        ReplicaChain x = Told.of(Edge.THREE);
        x.write(0, 0);
        Edge.same("the head", x.under(0, 0), 1);
        x.tick();
        Edge.same("one in the middle", x.under(1, 0), 1);
        Edge.same("it sends nothing up", x.under(0, 1), 0);
        x.tick();
        Edge.same("the tail", x.under(1, 1), 1);
        x.tick();
        Edge.same("who is not the head sends it up", x.under(0, 1), 1);
        x.tick();
        Edge.same("the head sends nothing", x.traffic(), 0);
    }

    private static void answeredAtTheHead() {
        Edge.of(0, "A WRITE is ANSWERED when it is CLEAN to the HEAD.");
        ReplicaChain x = Told.of(Edge.THREE);
        x.write(0, 0);
        Told.ticks(x, 3);
        Edge.same("clean to all others", x.wrote(1, 4), 6);
        Edge.same("not answered", x.wrote(1, 2), 0);
        x.tick();
        Edge.same("answered", x.wrote(1, 2), 1);
    }

    private static void fortyAtMost() {
        Edge.of(0, "has the number behind the last one that the HEAD HAS (40 at most)");
        ReplicaChain x = Told.of(Edge.TWO);
        for (int i = 1; i <= 40; i++) {
            Edge.same("write", x.write(0, i), i);
        }
        Edge.none("a write more", x.write(0, 41));
        Edge.same("all come", x.tick(), 40);
        Edge.none("a write more, as all came", x.write(0, 41));
        Edge.same("all answers come", x.tick(), 40);
        Edge.none("a write more, as all are answered", x.write(0, 41));
        Edge.same("the last one's value", x.read(0, 0), 40);
        x = Told.of(Edge.TWO);
        for (int i = 1; i <= 39; i++) {
            x.write(0, i);
        }
        x.tick();
        x.write(0, 40);
        Edge.none("a write more", x.write(0, 41));
        Edge.same("the last is dropped", x.lose(0), 1);
        Edge.same("its number is given anew", x.write(1, 50), 40);
        Edge.none("a write more", x.write(0, 41));
    }

    private static void joinsIfNoneIsLeft() {
        Edge.of(0, "if one COPIES, it does so for 1 tick less; if none is left, it JOINS: it is the TAIL");
        for (int copy = 1; copy <= 9; copy++) {
            ReplicaChain x = Told.of(Edge.THREE + "copy " + copy + ";");
            x.join(3);
            for (int left = copy; left > 0; left--) {
                Edge.same("left", x.about(5), left);
                Edge.row(x, 0, 1, 2);
                x.tick();
            }
            Edge.same("left", x.about(5), 0);
            Edge.same("it copies no more", x.node(3, 4), 0);
            Edge.row(x, 0, 1, 2, 3);
        }
        ReplicaChain x = Told.of(Edge.SIX + "copy 1;");
        x.lose(2);
        x.join(7);
        x.tick();
        Edge.row(x, 0, 1, 3, 4, 5, 7);
    }

    private static void joinHasWhatTheTailHad() {
        Edge.of(0, "HAS what the TAIL had had, all of it CLEAN");
        ReplicaChain x = Told.of(Edge.TWO + "copy 1;");
        x.write(0, 7);
        x.join(2);
        Edge.same("nothing while it copies", x.node(2, 1), 0);
        Edge.same("tick()", x.tick(), 1);
        Edge.same("it has what came with this tick", x.node(2, 1), 1);
        Edge.same("clean", x.node(2, 2), 1);
        Edge.same("the answer is under way", x.under(0, 1), 1);
        Edge.same("nothing else is", x.traffic(), 1);
        x = Told.of(Edge.TWO + "copy 1; slow 2;");
        x.write(0, 7);
        x.join(2);
        x.tick();
        Edge.same("it has not what the tail had not", x.node(2, 1), 0);
        x.tick();
        Edge.same("who is the tail no more has it dirty", x.node(1, 3), 1);
        Edge.same("and sends it down", x.under(1, 0), 1);
        x = Told.of(Edge.ONE + "copy 1;");
        x.join(1);
        x.tick();
        Edge.same("nothing, of a tail that has nothing", x.node(1, 1), 0);
    }

    private static void lossOfTheHead() {
        Edge.of(0, "WRITES that only the HEAD had (none other HAS them: under way, too) are DROPPED, "
                + "their numbers are given anew");
        ReplicaChain x = Told.of(Edge.THREE);
        x.write(0, 1);
        x.tick();
        x.write(0, 2);
        x.write(1, 3);
        Edge.same("under way", x.under(0, 0), 2);
        Edge.same("lose(0)", x.lose(0), 2);
        Edge.row(x, 1, 2);
        Edge.same("the writes left", x.about(3), 1);
        Edge.none("no such write", x.wrote(2, 0));
        Edge.same("the one under way between others is so yet", x.under(0, 0), 1);
        Edge.same("given anew", x.write(1, 9), 2);
        Edge.same("its value", x.wrote(2, 1), 9);
        x = Told.of(Edge.THREE);
        x.write(0, 1);
        Told.ticks(x, 3);
        Edge.same("none is dropped", x.lose(0), 0);
        Edge.same("messages to it are lost", x.traffic(), 0);
        Edge.same("clean to the next, so answered", x.answered(), 1);
        x = Told.of(Edge.TWO);
        x.write(0, 1);
        Edge.same("the next one is alone", x.lose(0), 1);
        Edge.same("it has nothing", x.about(3), 0);
    }

    private static void lossOfTheTail() {
        Edge.of(0, "the one ahead is the TAIL: all it HAS is CLEAN to it; for each WRITE that becomes so it sends UP, in order");
        ReplicaChain x = Told.of(Edge.THREE + "slow 1 + back * (to = 0) * (4 + under);");
        x.write(0, 1);
        Told.ticks(x, 2);
        x.write(0, 2);
        x.write(0, 3);
        x.tick();
        Edge.same("the first is clean to the one ahead", x.node(1, 2), 1);
        Edge.same("its answer is under way", x.under(0, 1), 1);
        Edge.same("the others are dirty", x.node(1, 3), 2);
        Edge.same("lose(2)", x.lose(2), 0);
        Edge.same("all is clean", x.node(1, 2), 3);
        Edge.same("two answers more", x.under(0, 1), 3);
        Edge.same("none down", x.under(0, 0), 0);
        came(x, 0, 0, 0, 0, 1, 1, 1);
        Edge.same("none becomes clean: lose(1)", x.lose(1), 0);
        Edge.same("none is sent", x.traffic(), 0);
        x = Told.of(Edge.TWO);
        x.write(0, 1);
        x.lose(1);
        Edge.same("to the head as to the tail: answered", x.answered(), 1);
        Edge.same("nothing is sent", x.traffic(), 0);
    }

    private static void lossOfTheTailCopying() {
        Edge.of(0, "who COPIES begins anew");
        ReplicaChain x = Told.of(Edge.THREE + "copy 4;");
        x.join(3);
        Told.ticks(x, 3);
        x.lose(1);
        Edge.same("one in the middle is lost", x.about(5), 1);
        x.undo();
        x.lose(0);
        Edge.same("the head is lost", x.about(5), 1);
        x.undo();
        x.lose(2);
        Edge.same("the tail is lost", x.about(5), 4);
        Told.ticks(x, 3);
        Edge.row(x, 0, 1);
        x.tick();
        Edge.row(x, 0, 1, 3);
        x = Told.of(Edge.THREE + "copy 4;");
        x.lose(2);
        Edge.same("none copies", x.about(5), 0);
        Edge.same("still()", x.still(), 0);
        x = Told.of(Edge.TWO + "copy 2; loss 100;");
        x.join(2);
        x.tick();
        Edge.row(x, 0);
        Edge.same("the tail is lost by a draw", x.about(5), 2);
    }

    private static void lossInTheMiddle() {
        Edge.of(0, "the one ahead sends to the one behind DOWN, in order, what that one HAS not; that one sends UP, "
                + "in order, what is CLEAN to it and not to the one ahead");
        ReplicaChain x = Told.of(Edge.THREE + "slow 2 + under + back * 2;");
        x.write(0, 1);
        Told.ticks(x, 3);
        x.write(0, 2);
        x.write(0, 3);
        x.tick();
        Edge.same("the tail has the first", x.node(2, 1), 1);
        Edge.same("its answer is under way", x.due(1, 1), 4);
        x.tick();
        Edge.same("the second is at the middle", x.node(1, 1), 2);
        Edge.same("lose(1)", x.lose(1), 0);
        Edge.same("both go down", x.under(0, 0), 2);
        Edge.same("sent now", x.due(0, 0), 2);
        Edge.same("the first goes up", x.under(0, 1), 1);
        Edge.same("sent now, too", x.due(0, 1), 4);
        // Down 2 and 3 ticks behind it, up 4; then up 5 behind the second (one is ahead), 6 behind the third (two are).
        came(x, 0, 1, 1, 1, 0, 0, 1, 0, 1);
        x = Told.of(Edge.THREE);
        x.write(0, 1);
        Told.ticks(x, 4);
        x.lose(1);
        Edge.same("nothing lacks, nothing is sent", x.traffic(), 0);
        x = Told.of(Edge.SIX);
        for (int i = 0; i < 4; i++) {
            x.write(0, 1);
            x.tick();
        }
        x.lose(2);
        int[] down = {0, 2, 1, 1};
        for (int place = 0; place < 4; place++) {
            Edge.same("of six, down behind " + place, x.under(place, 0), down[place]);
        }
        Edge.same("of six, tick()", x.tick(), 4);
        x = Told.of(Edge.SIX);
        x.write(0, 1);
        x.lose(2);
        Edge.same("far from it the message is under way yet", x.under(0, 0), 1);
        Edge.same("nothing else is", x.traffic(), 1);
    }

    private static void seedModulo() {
        Edge.of(0, "the SEED (draw, at first) becomes its 137-fold and 71 more, modulo 1,000");
        for (int draw : new int[] {0, 1, 6, 7, 17, 44, 500, 998, 999}) {
            ReplicaChain x = Told.of("member a; loss 100; draw " + draw + ";");
            Edge.same("at first", x.about(7), draw);
            int seed = draw;
            for (int i = 0; i < 5; i++) {
                x.tick();
                seed = (seed * 137 + 71) % 1000;
                Edge.same("behind a tick", x.about(7), seed);
            }
        }
    }

    private static void restLessThanLoss() {
        Edge.of(0, "if its rest by 100 is less than loss tells");
        // The seed is 30 behind draw 7, 400 behind 17, 99 behind 44.
        int[][] cases = {{7, 30, 3}, {7, 31, 2}, {7, 29, 3}, {17, 0, 3}, {17, 1, 2}, {44, 99, 3}, {44, 100, 2}};
        for (int[] c : cases) {
            ReplicaChain x = Told.of(Edge.THREE + "draw " + c[0] + "; loss " + c[1] + ";");
            x.tick();
            Edge.same("draw " + c[0] + ", loss " + c[1], x.about(0), c[2]);
        }
    }

    private static void twoMembersOrMore() {
        Edge.of(0, "and there are two MEMBERS or more");
        ReplicaChain x = Told.of(Edge.TWO + "loss 100;");
        x.tick();
        Edge.same("of two one is lost", x.about(0), 1);
        x.tick();
        Edge.same("one alone is not", x.about(0), 1);
        Edge.same("the seed goes on", x.about(7), (71 * 137 + 71) % 1000);
    }

    private static void placeOfTheLost() {
        Edge.of(0, "the one whose place (0: the HEAD) is the SEED modulo how many there are is LOST");
        ReplicaChain x = Told.of("spare s; member a; member b; member c; loss 100; draw 7;");
        x.tick();
        Edge.row(x, 2, 3);
        x = Told.of("spare s; member a; member b; member c; loss 100; draw 17;");
        x.tick();
        Edge.row(x, 1, 3);
        x = Told.of("spare s; member a; member b; member c; loss 100;");
        x.tick();
        Edge.row(x, 1, 2);
        x = Told.of(Edge.SIX + "loss 100; draw 44;");
        x.tick();
        Edge.row(x, 0, 1, 2, 4, 5);
    }

    private static void drawBehindTheTick() {
        Edge.of(0, "a TICK, behind which the SEED");
        ReplicaChain x = Told.of("member a; spare b; key x; copy 1; loss 100;");
        x.join(1);
        x.tick();
        Edge.row(x, 0);
        Edge.same("the one that has just joined is lost: idle()", x.idle(), 2);
        x = Told.of("member a; spare b; key x; copy 1; loss 100; draw 7;");
        x.write(0, 5);
        x.join(1);
        x.tick();
        Edge.row(x, 1);
        Edge.same("who has just joined has all", x.read(1, 0), 5);
        Edge.same("none is dropped", x.about(4), 0);
        x = Told.of(Edge.THREE + "loss 100; draw 7;");
        x.write(0, 5);
        Edge.same("what came, came ahead of the loss", x.tick(), 1);
        Edge.row(x, 1, 2);
        Edge.same("so it is not dropped", x.about(4), 0);
        x = Told.of(Edge.THREE + "loss 100; draw 7; slow 2;");
        x.write(0, 5);
        x.tick();
        Edge.same("by a draw one is dropped, too", x.about(4), 1);
    }
}
