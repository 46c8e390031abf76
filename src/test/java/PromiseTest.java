/** For each promise of the document: what is ordinary, the edges that it names, and wrong inputs. */
public final class PromiseTest {
    private static final int LOW = Integer.MIN_VALUE;
    private static final int HIGH = Integer.MAX_VALUE;
    private static final String THREE = "member a; member b; member c; spare d; key x; key y;";
    private static final String TWO = "member a; member b; key x; key y;";
    private static final String SIX =
            "member a; member b; member c; member d; member e; member f; spare g; spare h; key x;";

    private PromiseTest() {
    }

    public static void main(String[] args) {
        promise1();
        promise2();
        promise3();
        promise4();
        promise4ToldAgain();
        promise5();
        promise5Depths();
        slowness();
        promise6();
        promise7();
        promise8();
        promise9();
        promise10();
        promise11();
        promise12();
        promise13();
        promise13Copying();
        promise14();
        promise15And16();
        promise17And18();
        promise19And20();
        promise21And22();
        promise23();
        promise24();
        promise25();
        promise26();
        promise27();
        promise28();
        promise29();
        promise30();
        promise31();
        promise32();
        promise33();
        promise34();
        promise35();
        promise36();
        promise37();
        promise38();
        promise39();
        promise40();
        promise41();
        promise42();
        promise43();
        promise44();
        promise45();
        promise46();
        promise47();
        promise48And49();
        promise50();
        promise51And52();
        promise53();
        Check.finish("PromiseTest");
    }

    private static void same(String call, long got, long due) {
        Check.same(call, got, due);
    }

    private static void none(String call, long got) {
        Check.same(call, got, ReplicaChain.NONE);
    }

    private static void promise1() {
        ReplicaChain x = new ReplicaChain();
        same("NONE", ReplicaChain.NONE, -1);
        for (int what = 0; what <= 16; what++) {
            same("1: about(" + what + ")", x.about(what), what == 15 ? 2 : 0);
        }
        none("1: row(0)", x.row(0));
        same("1: fault(0)", x.fault(0), 0);
        none("1: fault(1)", x.fault(1));
        Check.no("1: undo()", x.undo());
        same("1: lies(0)", x.lies(0), -2);
        same("1: chain()", x.chain(), 0);
    }

    private static void promise2() {
        ReplicaChain x = new ReplicaChain();
        same("2: feed", x.feed(0x6b657920, 0x613b6d65, 0x6d626572, 0x206d3b20, 0x20202020), 20);
        same("2: chain()", x.chain(), 1);
        same("2: about(2)", x.about(2), 1);
        for (int i = 1; i <= 80; i++) {
            same("2: feed", x.feed(-1, 0x20202020, LOW, HIGH, 0), 20 * i);
        }
        none("2: feed above 1600", x.feed(0, 0, 0, 0, 0));
        same("2: about(12)", x.about(12), 1600);
        same("2: end(1581)", x.end(1581), 1581);
        none("2: feed above 1600", x.feed(0, 0, 0, 0, 0));
        same("2: end(1580)", x.end(1580), 1580);
        same("2: feed", x.feed(0, 0, 0, 0, 0), 1600);
        none("2: chain()", x.chain());
        same("2: a byte above 127 is no token", x.fault(0), 1);
        same("2: its place", x.fault(1), 0);
    }

    private static void promise3() {
        ReplicaChain x = new ReplicaChain();
        same("3: end(0)", x.end(0), 0);
        none("3: end(1)", x.end(1));
        x.feed(0, 0, 0, 0, 0);
        none("3: end(-1)", x.end(-1));
        none("3: end(21)", x.end(21));
        none("3: end(high)", x.end(HIGH));
        none("3: end(low)", x.end(LOW));
        same("3: about(12)", x.about(12), 20);
        same("3: end(20)", x.end(20), 20);
        same("3: end(5)", x.end(5), 5);
        none("3: end(6)", x.end(6));
        same("3: about(12)", x.about(12), 5);
    }

    private static void promise4() {
        ReplicaChain x = Told.of(THREE + "loss 0; draw 5;");
        same("4: tape", x.about(12), 0);
        x.write(0, 1);
        x.tick();
        x.soonest();
        x.seen(4, true);
        x.later(7);
        x.image(1);
        x.undo();
        Told.lay(x, "member a; membr b;");
        none("4: chain() with a fault", x.chain());
        same("4: its tape stays", x.about(12), 18);
        same("4: members stay", x.about(0), 3);
        same("4: writes stay", x.about(3), 1);
        same("4: acts stay", x.about(8), 1);
        same("4: redone stay", x.about(9), 1);
        same("4: seen stays", x.about(10), 1);
        same("4: lies stays", x.about(14), 3);
        same("4: copy stays", x.about(15), 2);
        same("4: boxes stay", x.back(1), 1);
        x.write(0, 1);
        x.end(0);
        Told.lay(x, "spare s; member a; copy 4; loss 9; draw 77;");
        same("4: chain()", x.chain(), 1);
        int[] due = {1, 2, 0, 0, 0, 0, 0, 77, 0, 0, 0, 7, 0, 0, 0, 4, 9};
        for (int what = 0; what < due.length; what++) {
            same("4: about(" + what + ")", x.about(what), due[what]);
        }
        same("4: numbered as told", x.row(0), 1);
        none("4: boxes are empty", x.back(1));
        Check.no("4: undo()", x.undo());
        same("4: a chain without members", Told.of("spare s; key k; slow 3;").about(0), 0);
    }

    private static void promise4ToldAgain() {
        ReplicaChain x = Told.of(THREE + "slow 1 + (3); copy 9; loss 8; draw 7;");
        for (int round = 0; round < 2; round++) {
            x.write(0, 1);
            x.write(1, 1);
            x.lose(0);
            x.write(1, 1);
            Told.ticks(x, 9);
            x.join(x.about(1) - 1);
            x.tick();
            for (int box = 0; box < 3; box++) {
                x.image(box);
            }
            x.back(1);
            Told.lay(x, "member p; member q; spare r; key k;");
            same("4: told again", x.chain(), 2);
            int[] due = {2, 3, 1, 0, 0, 0, 0, 0, 0, 0, 0, 0, 0, 0, 0, 2, 0};
            for (int what = 0; what < due.length; what++) {
                same("4: told again: about(" + what + ")", x.about(what), due[what]);
            }
            for (int node = 0; node < 3; node++) {
                for (int what = 1; what <= 4; what++) {
                    same("4: told again: node(" + node + ", " + what + ")", x.node(node, what), 0);
                }
                none("4: told again: back(" + node + ")", x.back(node));
            }
            same("4: told again: trip()", x.trip(), 2);
            none("4: told again: the key of before", x.latest(1));
            x.write(0, 1);
            same("4: told again: due(0, 0)", x.due(0, 0), 1);
        }
    }

    private static void fault(String text, int kind, int place) {
        ReplicaChain x = new ReplicaChain();
        Told.lay(x, text);
        int got = x.chain();
        Check.same("5: is a fault in " + text, got < 0 ? 1 : 0, kind == 0 ? 0 : 1);
        same("5: fault(0) of " + text, x.fault(0), kind);
        same("5: fault(1) of " + text, x.fault(1), place);
    }

    private static void promise5() {
        ReplicaChain x = new ReplicaChain();
        Told.lay(x, "copy 0;");
        none("5: chain()", x.chain());
        same("5: fault(0)", x.fault(0), 4);
        same("5: fault(1)", x.fault(1), 5);
        none("5: fault(2)", x.fault(2));
        none("5: fault(-1)", x.fault(-1));
        x.end(0);
        x.chain();
        same("5: fault(0)", x.fault(0), 0);
        none("5: fault(1)", x.fault(1));
        fault("", 0, -1);
        fault(" \n ", 0, -1);
        fault("member a;\nkey a;spare b ; slow(1);", 0, -1);
        fault("copy 1;loss 100;draw 999;", 0, -1);
        fault("copy 9;loss 0;draw 0;", 0, -1);
        fault("copy 0009;", 0, -1);
        fault("member\ta;", 1, 6);
        fault("member A;", 1, 7);
        fault("member a_;", 1, 8);
        fault("member a;,", 1, 9);
        fault("member abcdefgh;", 0, -1);
        fault("member abcdefghi;", 1, 7);
        fault("copy 12345;", 1, 5);
        fault("copy 00001;", 1, 5);
        fault("copy 1a;", 1, 5);
        fault("slow 2 from;", 2, 7);
        fault("slow 2from;", 1, 5);
        fault("slow 2*from*3;", 0, -1);
        fault("member", 2, 6);
        fault("member a", 2, 8);
        fault("member a  ", 2, 10);
        fault("member ;", 2, 7);
        fault("member 1;", 2, 7);
        fault("member a b;", 2, 9);
        fault("a;", 2, 0);
        fault("kember a;", 2, 0);
        fault("members a;", 2, 0);
        fault("membe a;", 2, 0);
        fault("member az; member za; member z;", 0, -1);
        fault("spare a; 1", 2, 9);
        fault("draw ;", 2, 5);
        fault("loss a;", 2, 5);
        fault(";", 2, 0);
        fault("from;", 2, 0);
        fault("copy a;", 2, 5);
        fault("copy 0", 4, 5);
        fault("copy 10;", 4, 5);
        fault("loss 101;", 4, 5);
        fault("draw 1000;", 4, 5);
        for (String own : Model.OWN_WORDS) {
            fault("key " + own + ";", 2, 4);
        }
        fault("member a; member a;", 3, 17);
        fault("member a; spare a;", 3, 16);
        fault("spare a; spare a;", 3, 15);
        fault("key a; key b; key a;", 3, 18);
        fault("member a; key a;", 0, -1);
        fault("slow 1; slow 1;", 2, 8);
        fault("copy 1; copy 1;", 2, 8);
        fault("loss 1; loss 1;", 2, 8);
        fault("draw 1; draw 1;", 2, 8);
        fault("member a;member b;member c;member d;member e;member f;", 0, -1);
        fault("member a;member b;member c;member d;member e;member f;member a;", 2, 54);
        fault("member a;member b;member c;member d;member e;member f;spare g;spare h;", 0, -1);
        fault("member a;member b;member c;member d;member e;member f;spare g;spare h;spare i;", 2, 70);
        fault("spare a;spare b;spare c;spare d;spare e;spare f;spare g;spare h;", 0, -1);
        fault("spare a;spare b;spare c;spare d;spare e;spare f;spare g;spare h;member a;", 2, 64);
        fault("key a;key b;key c;key d;", 0, -1);
        fault("key a;key b;key c;key d;key a;", 2, 24);
    }

    private static String times(String text, int n) {
        StringBuilder b = new StringBuilder();
        for (int i = 0; i < n; i++) {
            b.append(text);
        }
        return b.toString();
    }

    private static void promise5Depths() {
        fault("slow ;", 2, 5);
        fault("slow 1+;", 2, 7);
        fault("slow 1 < 2 < 3;", 2, 11);
        fault("slow (1 < 2) < 3;", 0, -1);
        fault("slow -1;", 2, 5);
        fault("slow (1;", 2, 7);
        fault("slow 1);", 2, 6);
        fault("slow ();", 2, 6);
        fault("slow a;", 2, 5);
        fault("slow or;", 2, 5);
        fault("slow and;", 2, 5);
        fault("slow not;", 2, 8);
        fault("slow member;", 2, 5);
        fault("slow 1 + not 1;", 2, 9);
        fault("slow not 1 < 2 and not back or tick;", 0, -1);
        fault("slow 1 or;", 2, 9);
        fault("slow " + times("(", 7) + "1" + times(")", 7) + ";", 0, -1);
        fault("slow " + times("(", 8) + "1" + times(")", 8) + ";", 2, 12);
        fault("slow " + times("not ", 7) + "1;", 0, -1);
        fault("slow " + times("not ", 8) + "1;", 2, 33);
        fault("slow " + times("not(", 3) + "not 1" + times(")", 3) + ";", 0, -1);
        fault("slow " + times("not(", 3) + "not(1)" + times(")", 3) + ";", 2, 20);
        fault("slow " + times("(", 7) + "not 1" + times(")", 7) + ";", 2, 12);
        fault("slow 1" + times("+1", 29) + ";", 0, -1);
        fault("slow 1" + times("+1", 30) + ";", 2, 65);
        fault("slow (1)" + times("+1", 28) + ";", 0, -1);
        fault("slow (1)" + times("+1", 29) + ";", 2, 65);
        fault("slow 1" + times("+1", 29) + "+(1);", 2, 65);
        fault("slow 1" + times("+1", 28) + "+(1);", 2, 64);
        fault("slow " + times("not not not not not not not 1 and ", 29) + "1;", 0, -1);
        same("5: units", Told.of("slow (1 + back) * (2);").about(13), 5);
    }

    private static int delayOf(String slow) {
        ReplicaChain x = Told.of(TWO + "slow " + slow + ";");
        x.write(0, 0);
        return x.due(0, 0);
    }

    private static void slowness() {
        int wrapped = 9999 * 9999 * 9999 * 9999;
        same("slow wraps", delayOf("(9999*9999*9999*9999 < 0) * 4 + 2"), (wrapped < 0 ? 4 : 0) + 2);
        same("slow below 1", delayOf("0"), 1);
        same("slow below 0", delayOf("0 - 5"), 1);
        same("slow 9", delayOf("9"), 9);
        same("slow above 9", delayOf("10"), 9);
        same("slow / cut", delayOf("7 / 2"), 3);
        same("slow / cut below 0", delayOf("(0 - 7) / 2 + 6"), 3);
        same("slow % below 0", delayOf("(0 - 7) % 4 + 6"), 3);
        same("slow by 0", delayOf("5 / 0 + 3"), 3);
        same("slow rest by 0", delayOf("5 % 0 + 3"), 3);
        same("slow from the left", delayOf("9 - 3 - 2"), 4);
        same("slow * ahead of +", delayOf("1 + 2 * 3"), 7);
        same("slow and ahead of or", delayOf("(1 or 0 and 0) * 6"), 6);
        same("slow relation", delayOf("(2 < 3) * 2 + (3 > 2) * 3 + (3 = 4) * 4"), 5);
        same("slow not ahead of a relation", delayOf("(not 1 < 2) * 5 + 2"), 2);
        same("slow not 5", delayOf("(not 5) * 5 + 2"), 2);
        same("slow and is 1", delayOf("(5 and 7) + 2"), 3);
        same("slow or is 1", delayOf("(5 or 7) + 2"), 3);
        same("slow or, only the second", delayOf("(0 or 7) + 2"), 3);
        same("slow or, none", delayOf("(0 or 0) + 2"), 2);
        same("slow and, only the first", delayOf("(5 and 0) + 2"), 2);
        same("slow <, alike", delayOf("(3 < 3) * 4 + 2"), 2);
        same("slow >, alike", delayOf("(3 > 3) * 4 + 2"), 2);
        same("slow =, alike", delayOf("(3 = 3) * 4 + 2"), 6);
        same("slow -, below 0, is not 0", delayOf("((0 - 3) and 1) * 4 + 2"), 6);
        same("slow from, to", delayOf("from * 5 + to * 3"), 3);
        ReplicaChain x = Told.of(TWO + "slow from * 5 + to * 3 + back + tick;");
        x.write(0, 0);
        Told.ticks(x, 2);
        none("slow, under way", x.due(0, 1));
        x.tick();
        same("slow, back 1, from 1, tick 3", x.due(0, 1), 9);
        x = Told.of(TWO + "slow write * 2 + under;");
        for (int i = 0; i < 3; i++) {
            x.write(0, 0);
        }
        int[] came = {0, 1, 0, 0, 1, 0, 0, 1};
        for (int i = 0; i < came.length; i++) {
            same("slow write, under: tick " + i, x.tick(), came[i] + (i == 3 ? 1 : 0));
        }
        x = Told.of(TWO + "slow 6 - write * 2;");
        x.write(0, 0);
        x.write(0, 0);
        same("not ahead of the one before", x.under(0, 0), 2);
        Told.ticks(x, 3);
        same("both under way", x.under(0, 0), 2);
        same("both come", x.tick(), 2);
    }

    private static void promise6() {
        ReplicaChain x = Told.of("spare s; member a; member b;");
        same("6: row(0)", x.row(0), 1);
        same("6: row(1)", x.row(1), 2);
        none("6: row(2)", x.row(2));
        none("6: row(-1)", x.row(-1));
        none("6: row(low)", x.row(LOW));
        none("6: row(high)", x.row(HIGH));
    }

    private static void promise7() {
        ReplicaChain x = Told.of(THREE);
        x.write(0, 1);
        x.write(1, 2);
        Told.ticks(x, 2);
        x.write(1, 3);
        x.join(3);
        int[][] due = {{0, 3, 0, 3, 0}, {1, 2, 0, 2, 0}, {2, 2, 2, 0, 0}, {-1, 0, 0, 0, 1}};
        for (int node = 0; node < 4; node++) {
            for (int what = 0; what < 5; what++) {
                same("7: node(" + node + ", " + what + ")", x.node(node, what), due[node][what]);
            }
        }
        same("7: node(0, 5)", x.node(0, 5), -2);
        same("7: node(0, -1)", x.node(0, -1), -2);
        same("7: node(4, 0)", x.node(4, 0), -2);
        same("7: node(-1, 0)", x.node(-1, 0), -2);
        x.lose(1);
        same("7: gone", x.node(1, 0), -1);
        same("7: gone has", x.node(1, 1), 0);
    }

    private static void promise8() {
        ReplicaChain x = Told.of(THREE);
        x.write(0, 1);
        x.write(0, 2);
        same("8: under(0, 0)", x.under(0, 0), 2);
        x.tick();
        same("8: under(0, 0)", x.under(0, 0), 0);
        same("8: under(1, 0)", x.under(1, 0), 2);
        x.tick();
        same("8: under(1, 1)", x.under(1, 1), 2);
        same("8: under(0, 1)", x.under(0, 1), 0);
        none("8: under(2, 0)", x.under(2, 0));
        none("8: under(-1, 0)", x.under(-1, 0));
        none("8: under(0, 2)", x.under(0, 2));
        none("8: under(0, -1)", x.under(0, -1));
        none("8: under(high, 0)", x.under(HIGH, 0));
    }

    private static void promise9() {
        ReplicaChain x = Told.of(TWO + "slow 3 + back * 2;");
        none("9: due(0, 0)", x.due(0, 0));
        x.write(0, 1);
        same("9: due(0, 0)", x.due(0, 0), 3);
        none("9: due(0, 1)", x.due(0, 1));
        Told.ticks(x, 2);
        x.write(0, 1);
        same("9: due(0, 0)", x.due(0, 0), 1);
        x.tick();
        same("9: due(0, 0) of the second", x.due(0, 0), 2);
        same("9: due(0, 1)", x.due(0, 1), 5);
        none("9: due(1, 0)", x.due(1, 0));
        none("9: due(-1, 0)", x.due(-1, 0));
        none("9: due(0, 2)", x.due(0, 2));
        none("9: due(high, 0)", x.due(HIGH, 0));
    }

    private static void promise10() {
        ReplicaChain x = Told.of(THREE);
        x.write(1, 99);
        x.write(0, 0);
        Told.ticks(x, 3);
        x.write(1, 7);
        int[][] due = {{1, 99, 0, 7, 6}, {0, 0, 0, 7, 6}, {1, 7, 0, 1, 0}};
        for (int write = 1; write <= 3; write++) {
            for (int what = 0; what < 5; what++) {
                same("10: wrote(" + write + ", " + what + ")", x.wrote(write, what), due[write - 1][what]);
            }
        }
        x.tick();
        same("10: wrote(1, 2)", x.wrote(1, 2), 1);
        same("10: wrote(1, 4)", x.wrote(1, 4), 7);
        same("10: wrote(2, 2)", x.wrote(2, 2), 1);
        same("10: wrote(3, 2)", x.wrote(3, 2), 0);
        none("10: wrote(0, 0)", x.wrote(0, 0));
        none("10: wrote(4, 0)", x.wrote(4, 0));
        none("10: wrote(1, 5)", x.wrote(1, 5));
        none("10: wrote(1, -1)", x.wrote(1, -1));
    }

    private static void promise11() {
        ReplicaChain x = Told.of(TWO);
        none("11: write(2, 0)", x.write(2, 0));
        none("11: write(-1, 0)", x.write(-1, 0));
        none("11: write(0, -1)", x.write(0, -1));
        none("11: write(0, 100)", x.write(0, 100));
        same("11: no act", x.about(8), 0);
        for (int i = 1; i <= 40; i++) {
            same("11: write", x.write(i % 2, i), i);
        }
        none("11: write above 40", x.write(0, 0));
        same("11: acts", x.about(8), 40);
        same("11: has", x.node(0, 1), 40);
        same("11: value", x.wrote(40, 1), 40);
        x.lose(0);
        same("11: a number given anew", x.write(1, 5), 1);
        same("11: alone, it is answered at once", x.answered(), 1);
        none("11: without members", Told.of("key k; spare s;").write(0, 0));
    }

    private static void promise12() {
        ReplicaChain x = Told.of(THREE);
        x.write(0, 1);
        int[] came = {1, 1, 1, 1, 0};
        for (int i = 0; i < came.length; i++) {
            same("12: tick() " + i, x.tick(), came[i]);
        }
        same("12: the tick", x.about(6), 5);
        none("12: without members", Told.of("spare a;").tick());
        x = Told.of(THREE + "draw 7; loss 31;");
        x.write(0, 1);
        same("12: tick(), one is lost behind it", x.tick(), 1);
        same("12: the seed", x.about(7), 30);
        same("12: the row", x.about(0), 2);
        same("12: place 30 % 3 is the head", x.row(0), 1);
        same("12: none is dropped", x.about(4), 0);
        same("12: still under way", x.under(0, 0), 1);
        x = Told.of(THREE + "draw 7; loss 30;");
        x.tick();
        same("12: the seed again", x.about(7), 30);
        same("12: 30 is not less than 30", x.about(0), 3);
        x.tick();
        same("12: the seed goes on", x.about(7), 181);
        x = Told.of("member a; loss 100;");
        x.tick();
        same("12: one alone is not lost", x.about(0), 1);
        same("12: the seed then", x.about(7), 71);
        x = Told.of(TWO + "loss 100; draw 0;");
        x.write(0, 1);
        x.tick();
        same("12: seed 71, place 1", x.row(0), 0);
        same("12: one is left", x.about(0), 1);
        same("12: clean to the one left", x.answered(), 1);
        x = Told.of(THREE);
        Told.ticks(x, 400);
        same("12: many ticks", x.about(6), 400);
    }

    private static void promise13() {
        ReplicaChain x = Told.of(THREE);
        none("13: lose(3)", x.lose(3));
        none("13: lose(-1)", x.lose(-1));
        none("13: lose(high)", x.lose(HIGH));
        same("13: no act", x.about(8), 0);
        x.write(0, 1);
        x.tick();
        x.write(0, 2);
        x.write(0, 3);
        same("13: the head: lose(0)", x.lose(0), 2);
        same("13: dropped", x.about(4), 2);
        same("13: head", x.row(0), 1);
        same("13: gone", x.node(0, 1), 0);
        same("13: gone, its dirty ones too", x.node(0, 3), 0);
        same("13: under way to the tail", x.under(0, 0), 1);
        same("13: the tail: lose(2)", x.lose(2), 0);
        same("13: all is clean to the one left", x.answered(), 1);
        none("13: alone", x.lose(1));
        same("13: acts", x.about(8), 6);
        x = Told.of(THREE + "slow 2 + under + back * 3;");
        x.write(0, 1);
        x.write(0, 2);
        Told.ticks(x, 4);
        same("13: the tail has the first", x.node(2, 1), 1);
        same("13: its answer is under way", x.due(1, 1), 5);
        same("13: the middle: lose(1)", x.lose(1), 0);
        same("13: down", x.under(0, 0), 1);
        same("13: down is due", x.due(0, 0), 2);
        same("13: up", x.under(0, 1), 1);
        same("13: up is due", x.due(0, 1), 5);
        x = Told.of(THREE + "slow 2 + under;");
        x.write(0, 1);
        x.write(0, 2);
        x.write(0, 3);
        Told.ticks(x, 4);
        same("13: all are at the middle", x.node(1, 1), 3);
        x.lose(2);
        same("13: the new tail's are clean", x.node(1, 2), 3);
        same("13: it sends up", x.under(0, 1), 3);
        int[] came = {0, 1, 1, 1};
        for (int i = 0; i < came.length; i++) {
            same("13: up comes in order, tick " + i, x.tick(), came[i]);
        }
        x = Told.of(THREE);
        x.write(0, 1);
        Told.ticks(x, 3);
        same("13: the answer on its way to the head", x.under(0, 1), 1);
        same("13: the head: lose(0)", x.lose(0), 0);
        same("13: clean to the new head", x.answered(), 1);
        same("13: its message is lost", x.traffic(), 0);
        x.lose(1);
        same("13: gone, nothing is clean to it", x.node(1, 2), 0);
        same("13: gone, nothing is dirty to it", x.node(1, 3), 0);
    }

    private static void promise13Copying() {
        ReplicaChain x = Told.of(THREE + "copy 4;");
        x.join(3);
        Told.ticks(x, 3);
        same("13: copies", x.about(5), 1);
        x.lose(1);
        same("13: a middle loss leaves the copy", x.about(5), 1);
        x.undo();
        x.lose(0);
        same("13: a head loss leaves the copy", x.about(5), 1);
        x.undo();
        x.lose(2);
        same("13: a tail loss begins it anew", x.about(5), 4);
    }

    private static void promise14() {
        ReplicaChain x = Told.of(THREE + "copy 3; spare e;");
        none("14: join(0), in the row", x.join(0));
        none("14: join(5)", x.join(5));
        none("14: join(-1)", x.join(-1));
        same("14: no act", x.about(8), 0);
        x.write(0, 4);
        same("14: join(3)", x.join(3), 3);
        none("14: join(4) while one copies", x.join(4));
        same("14: acts", x.about(8), 2);
        x.tick();
        x.write(0, 5);
        Told.ticks(x, 2);
        same("14: joined", x.row(3), 3);
        same("14: has what the tail had", x.node(3, 1), 2);
        same("14: clean", x.node(3, 2), 2);
        same("14: none copies", x.about(5), 0);
        x.write(1, 6);
        Told.ticks(x, 3);
        same("14: the new tail gets writes", x.node(3, 1), 3);
        same("14: the old one has it dirty", x.node(2, 3), 1);
        x.lose(0);
        same("14: one that is gone joins anew", x.join(0), 3);
        x = Told.of(SIX);
        none("14: with 6 members", x.join(6));
        x.lose(5);
        same("14: with 5 members", x.join(6), 2);
        none("14: without members", Told.of("spare a;").join(0));
    }

    private static void promise15And16() {
        ReplicaChain x = Told.of(THREE + "loss 50; draw 7;");
        Check.no("15: undo()", x.undo());
        Check.no("16: redo()", x.redo());
        x.write(0, 1);
        x.tick();
        x.lose(x.row(1));
        int left = x.about(0);
        Check.yes("15: undo()", x.undo());
        same("15: members", x.about(0), left + 1);
        Check.yes("15: undo()", x.undo());
        same("15: the tick", x.about(6), 0);
        same("15: the seed", x.about(7), 7);
        same("15: members", x.about(0), 3);
        same("15: under way", x.under(0, 0), 1);
        none("15: nothing is done by a wrong write", x.write(9, 9));
        same("16: can be redone", x.about(9), 2);
        Check.yes("16: redo()", x.redo());
        Check.yes("16: redo()", x.redo());
        Check.no("16: redo()", x.redo());
        same("16: members", x.about(0), left);
        same("16: the seed", x.about(7), 30);
        Check.yes("15: undo()", x.undo());
        x.write(0, 9);
        Check.no("16: redo() behind another act", x.redo());
        same("16: about(9)", x.about(9), 0);
        same("15: about(8)", x.about(8), 3);
        x = Told.of(THREE);
        Told.ticks(x, 45);
        same("15: 40 are kept", x.about(8), 40);
        for (int i = 0; i < 40; i++) {
            Check.yes("15: undo()", x.undo());
        }
        Check.no("15: the oldest are gone", x.undo());
        same("15: the tick", x.about(6), 5);
        same("16: about(9)", x.about(9), 40);
        for (int i = 0; i < 40; i++) {
            Check.yes("16: redo()", x.redo());
        }
        same("16: the tick", x.about(6), 45);
        x = Told.of(TWO);
        x.write(0, 1);
        x.lose(0);
        same("15: dropped", x.about(4), 1);
        x.undo();
        same("15: not dropped", x.about(4), 0);
    }

    private static void promise17And18() {
        ReplicaChain x = Told.of(THREE);
        none("17: no such write", x.read(0, 0));
        none("18: no such write", x.lazy(0, 0));
        x.write(0, 5);
        Told.ticks(x, 4);
        x.write(0, 6);
        same("17: dirty, the tail's", x.read(0, 0), 5);
        Told.ticks(x, 2);
        same("17: dirty, the tail has it clean", x.read(0, 0), 6);
        same("18: lazy at the head", x.lazy(0, 0), 5);
        same("18: lazy at the tail", x.lazy(2, 0), 6);
        same("17: at the tail", x.read(2, 0), 6);
        none("17: another key", x.read(0, 1));
        x.write(1, 8);
        same("17: of the key alone, not asked", x.read(2, 0), 6);
        none("18: dirty alone", x.lazy(0, 1));
        int[][] wrong = {{3, 0}, {4, 0}, {-1, 0}, {0, 2}, {0, -1}, {HIGH, LOW}};
        for (int[] w : wrong) {
            same("17: read(" + w[0] + ", " + w[1] + ")", x.read(w[0], w[1]), -2);
            same("18: lazy(" + w[0] + ", " + w[1] + ")", x.lazy(w[0], w[1]), -2);
        }
        x = Told.of(THREE);
        x.write(0, 5);
        Told.ticks(x, 4);
        x.write(1, 7);
        Told.ticks(x, 1);
        x.write(0, 6);
        Told.ticks(x, 2);
        same("17: not dirty in it, though the tail has more", x.read(0, 1), 7);
        x.undo();
        same("17: dirty at the middle", x.read(1, 0), 5);
    }

    private static void promise19And20() {
        ReplicaChain x = Told.of(THREE);
        same("19: askers(0)", x.askers(0), 0);
        same("20: stale(0)", x.stale(0), 0);
        x.write(0, 5);
        x.tick();
        same("19: askers(0)", x.askers(0), 3);
        same("20: stale(0)", x.stale(0), 0);
        x.tick();
        same("19: askers(0)", x.askers(0), 3);
        same("20: stale(0)", x.stale(0), 3);
        same("19: askers(1)", x.askers(1), 0);
        x.tick();
        same("19: askers(0)", x.askers(0), 1);
        same("20: stale(0)", x.stale(0), 1);
        x.tick();
        x.write(0, 5);
        Told.ticks(x, 2);
        same("19: askers(0)", x.askers(0), 3);
        same("20: the same value is not stale", x.stale(0), 0);
        none("19: askers(2)", x.askers(2));
        none("19: askers(-1)", x.askers(-1));
        none("20: stale(2)", x.stale(2));
        none("20: stale(-1)", x.stale(-1));
        x = Told.of("key k;");
        same("19: without members", x.askers(0), 0);
        same("20: without members", x.stale(0), 0);
    }

    private static void promise21And22() {
        ReplicaChain x = Told.of(THREE);
        same("21: versions(0, 0)", x.versions(0, 0), 0);
        none("22: version(0, 0, 0)", x.version(0, 0, 0));
        x.write(0, 1);
        x.write(0, 2);
        x.write(1, 3);
        Told.ticks(x, 4);
        x.write(0, 4);
        x.write(1, 5);
        x.write(0, 6);
        same("21: versions(0, 0)", x.versions(0, 0), 3);
        same("22: the latest clean", x.version(0, 0, 0), 2);
        same("22: dirty", x.version(0, 0, 1), 4);
        same("22: dirty", x.version(0, 0, 2), 6);
        none("22: version(0, 0, 3)", x.version(0, 0, 3));
        none("22: version(0, 0, -1)", x.version(0, 0, -1));
        same("21: versions(0, 1)", x.versions(0, 1), 2);
        same("21: versions(2, 0)", x.versions(2, 0), 1);
        same("22: version(2, 1, 0)", x.version(2, 1, 0), 3);
        int[][] wrong = {{3, 0}, {9, 0}, {-1, 0}, {0, 2}, {0, -1}};
        for (int[] w : wrong) {
            none("21: versions(" + w[0] + ", " + w[1] + ")", x.versions(w[0], w[1]));
            none("22: version(" + w[0] + ", " + w[1] + ", 0)", x.version(w[0], w[1], 0));
        }
    }

    private static void promise23() {
        ReplicaChain x = Told.of(THREE);
        x.write(0, 1);
        x.tick();
        x.write(0, 2);
        same("23: will(0, 0)", x.will(0, 0), 0);
        same("23: will(2, 0)", x.will(2, 0), 0);
        same("23: will(3, 0)", x.will(3, 0), 1);
        same("23: will(4, 0)", x.will(4, 0), 2);
        same("23: will(60, 0)", x.will(60, 0), 2);
        same("23: nothing is done", x.about(6), 1);
        none("23: will(61, 0)", x.will(61, 0));
        none("23: will(-1, 0)", x.will(-1, 0));
        none("23: will(1, 2)", x.will(1, 2));
        none("23: will(1, -1)", x.will(1, -1));
        none("23: without members", Told.of("").will(1, 0));
        x = Told.of(THREE + "loss 100; draw 7;");
        x.write(0, 1);
        same("23: no losses", x.will(2, 0), 0);
        same("23: the head is lost, then all is clean to the next", x.will(2, 1), 1);
    }

    private static void promise24() {
        ReplicaChain x = Told.of(THREE + "slow 2 + back;");
        x.write(0, 1);
        same("24: when(1)", x.when(1), 10);
        x.tick();
        x.write(0, 1);
        same("24: when(1)", x.when(1), 9);
        same("24: when(2)", x.when(2), 10);
        none("24: when(3)", x.when(3));
        none("24: when(0)", x.when(0));
        none("24: when(-1)", x.when(-1));
        Told.ticks(x, 10);
        same("24: answered", x.when(1), 0);
        none("24: without members", Told.of("").when(1));
        x = Told.of("member a; spare b; key k; copy 1;");
        x.join(1);
        x.tick();
        x.write(0, 1);
        same("24: the one that joined answers", x.when(1), 2);
    }

    private static void promise25() {
        ReplicaChain x = Told.of(THREE + "copy 7;");
        same("25: still()", x.still(), 0);
        x.write(0, 1);
        same("25: still()", x.still(), 4);
        x.join(3);
        same("25: while one copies", x.still(), 7);
        Told.ticks(x, 7);
        same("25: still()", x.still(), 0);
        same("25: without members", Told.of("spare s;").still(), 0);
    }

    private static void promise26() {
        ReplicaChain x = Told.of(THREE);
        x.write(0, 1);
        x.tick();
        x.write(0, 2);
        x.write(0, 3);
        same("26: drops(0)", x.drops(0), 0);
        same("26: drops(1)", x.drops(1), 2);
        same("26: drops(2)", x.drops(2), 0);
        same("26: drops(3)", x.drops(3), 3);
        same("26: drops(5)", x.drops(5), 2);
        same("26: drops(6)", x.drops(6), 0);
        none("26: drops(7)", x.drops(7));
        none("26: drops(9)", x.drops(9));
        none("26: drops(-1)", x.drops(-1));
        none("26: drops(low)", x.drops(LOW));
        none("26: without members", Told.of("").drops(0));
        same("26: nothing is done", x.about(4), 0);
    }

    private static void promise27() {
        ReplicaChain x = Told.of("member a; member b; member c; member d; key x;");
        x.write(0, 1);
        x.tick();
        x.write(0, 2);
        same("27: worst(1, 0)", x.worst(1, 0), 1);
        same("27: worst(1, 1)", x.worst(1, 1), 1);
        same("27: worst(2, 0)", x.worst(2, 0), 2);
        same("27: worst(2, 1)", x.worst(2, 1), 3);
        same("27: worst(3, 1)", x.worst(3, 1), 7);
        none("27: worst(4, 0)", x.worst(4, 0));
        none("27: worst(0, 0)", x.worst(0, 0));
        none("27: worst(6, 0)", Told.of(SIX).worst(6, 0));
        same("27: worst(5, 1)", Told.of(SIX).worst(5, 1), 31);
        none("27: worst(1, 2)", x.worst(1, 2));
        none("27: worst(1, -1)", x.worst(1, -1));
        Told.ticks(x, 9);
        same("27: none is dropped", x.worst(2, 0), 0);
        same("27: the least of like ones", x.worst(2, 1), 3);
        x = Told.of("spare s; member b; member a; key x;");
        same("27: bits of nodes", x.worst(1, 1), 2);
    }

    private static void promise28() {
        ReplicaChain x = Told.of(THREE);
        same("28: safe()", x.safe(), 2);
        x.write(0, 1);
        Told.ticks(x, 4);
        x.write(0, 1);
        same("28: safe()", x.safe(), 2);
        same("28: one", Told.of("member a;").safe(), 0);
        same("28: six", Told.of(SIX).safe(), 5);
        none("28: without members", Told.of("spare a;").safe());
    }

    private static void promise29() {
        ReplicaChain x = Told.of(THREE);
        same("29: answered()", x.answered(), 0);
        x.write(0, 1);
        x.write(0, 1);
        Told.ticks(x, 3);
        same("29: answered()", x.answered(), 0);
        x.tick();
        same("29: answered()", x.answered(), 2);
        none("29: without members", Told.of("spare a;").answered());
    }

    private static void promise30() {
        ReplicaChain x = Told.of("member a; member b; member c; slow 1 + (from = 0 and to = 1) * 5;");
        same("30: soonest()", x.soonest(), 4);
        int[] order = {0, 2, 1};
        for (int i = 0; i < 3; i++) {
            same("30: lies(" + i + ")", x.lies(i), order[i]);
        }
        same("30: lies(3)", x.lies(3), -2);
        x = Told.of("member a; member b; slow 1 + tick % 3;");
        same("30: by the tick now", x.soonest(), 3);
        x.tick();
        same("30: by the tick now", x.soonest(), 3);
        x.tick();
        same("30: by the tick now", x.soonest(), 6);
        x = Told.of("spare s; member c; member b;");
        same("30: by numbers", x.soonest(), 2);
        same("30: lies(0)", x.lies(0), 1);
        x.lose(1);
        same("30: one alone", x.soonest(), 0);
        same("30: lies(0)", x.lies(0), 2);
        same("30: about(14)", x.about(14), 1);
        none("30: without members", Told.of("spare s;").soonest());
        same("30: six", Told.of(SIX + "slow 1 + (to < from) * 3;").soonest(), 25);
    }

    private static void promise31() {
        ReplicaChain x = Told.of(THREE);
        same("31: all are answered", x.weed(0), 0);
        same("31: at once", x.weed(1), 0);
        x.write(0, 1);
        same("31: not the head", x.weed(0), 1);
        same("31: behind", x.weed(1), 2);
        x.tick();
        same("31: the nearest to the head", x.weed(0), 2);
        same("31: behind", x.weed(1), 1);
        x.tick();
        same("31: the head may go", x.weed(0), 0);
        same("31: behind", x.weed(1), 1);
        x = Told.of(TWO);
        x.write(0, 1);
        same("31: of two, the tail", x.weed(0), 1);
        same("31: of two, at once", x.weed(1), 0);
        none("31: weed(2)", x.weed(2));
        none("31: weed(-1)", x.weed(-1));
        none("31: one alone", Told.of("member a;").weed(0));
        none("31: without members", Told.of("").weed(0));
    }

    private static void promise32() {
        ReplicaChain x = Told.of(THREE);
        same("32: of like ones the first", x.fullest(), 0);
        x.write(0, 1);
        x.write(0, 1);
        x.tick();
        same("32: fullest()", x.fullest(), 1);
        x.write(0, 1);
        same("32: fullest()", x.fullest(), 1);
        x.write(0, 1);
        same("32: of like ones the first", x.fullest(), 0);
        x.undo();
        x.tick();
        same("32: both ways together", x.fullest(), 1);
        none("32: one alone", Told.of("member a;").fullest());
        none("32: without members", Told.of("").fullest());
    }

    private static void promise33() {
        ReplicaChain x = Told.of(TWO + "slow 1 + under * 2;");
        same("33: trip()", x.trip(), 2);
        x.write(0, 1);
        same("33: trip()", x.trip(), 4);
        same("33: nothing is done", x.about(3), 1);
        for (int i = 0; i < 39; i++) {
            x.write(0, 1);
        }
        none("33: above 40", x.trip());
        same("33: one alone", Told.of("member a;").trip(), 0);
        none("33: without members", Told.of("spare a;").trip());
    }

    private static void promise34() {
        ReplicaChain x = Told.of(THREE + "slow 1 + from;");
        same("34: the middle", x.without(1), 4);
        same("34: the tail", x.without(2), 3);
        none("34: the head", x.without(0));
        none("34: not in the row", x.without(3));
        none("34: none such", x.without(-1));
        same("34: nothing is done", x.about(0), 3);
        x = Told.of(TWO);
        same("34: the head is left", x.without(1), 0);
        for (int i = 0; i < 40; i++) {
            x.write(0, 1);
        }
        none("34: above 40", x.without(1));
        none("34: alone", Told.of("member a;").without(0));
    }

    private static void promise35() {
        ReplicaChain x = Told.of(THREE);
        same("35: latest(0)", x.latest(0), 0);
        x.write(0, 1);
        x.write(1, 1);
        x.write(0, 1);
        same("35: latest(0)", x.latest(0), 3);
        same("35: latest(1)", x.latest(1), 2);
        none("35: latest(2)", x.latest(2));
        none("35: latest(-1)", x.latest(-1));
        x.lose(0);
        same("35: dropped", x.latest(0), 0);
        none("35: without members", Told.of("key k;").latest(0));
    }

    private static void promise36() {
        ReplicaChain x = Told.of(THREE);
        same("36: traffic()", x.traffic(), 0);
        x.write(0, 1);
        Told.ticks(x, 2);
        x.write(0, 1);
        x.write(0, 1);
        same("36: both ways", x.traffic(), 3);
        same("36: without members", Told.of("").traffic(), 0);
    }

    private static void promise37() {
        ReplicaChain x = Told.of(THREE);
        x.write(0, 1);
        x.tick();
        x.write(0, 1);
        same("37: lag(0)", x.lag(0), 0);
        same("37: lag(1)", x.lag(1), 1);
        same("37: lag(2)", x.lag(2), 2);
        none("37: lag(3)", x.lag(3));
        none("37: lag(4)", x.lag(4));
        none("37: lag(-1)", x.lag(-1));
    }

    private static void promise38() {
        ReplicaChain x = Told.of(TWO + "slow 1 + (write > 1) + back * 8;");
        x.write(0, 1);
        x.write(0, 1);
        same("38: peak(0)", x.peak(0), 2);
        same("38: peak(1)", x.peak(1), 0);
        x = Told.of(THREE + "slow 3;");
        same("38: still", x.peak(0), 0);
        same("38: still", x.peak(1), 0);
        none("38: peak(2)", x.peak(2));
        none("38: peak(-1)", x.peak(-1));
        none("38: without members", Told.of("").peak(0));
    }

    private static void promise39() {
        ReplicaChain x = Told.of(THREE);
        none("39: none has any", x.dirtiest(0));
        x.write(1, 1);
        Told.ticks(x, 4);
        same("39: of like ones the nearest to the head", x.dirtiest(0), 0);
        same("39: its key", x.dirtiest(1), 1);
        same("39: how many", x.dirtiest(2), 1);
        x.write(0, 1);
        same("39: the first key", x.dirtiest(1), 0);
        x.write(1, 1);
        same("39: the most", x.dirtiest(1), 1);
        same("39: how many", x.dirtiest(2), 2);
        none("39: dirtiest(3)", x.dirtiest(3));
        none("39: dirtiest(-1)", x.dirtiest(-1));
        none("39: without members", Told.of("key k;").dirtiest(2));
    }

    private static void promise40() {
        ReplicaChain x = Told.of(THREE + "slow 3 - write;");
        none("40: none is under way", x.soonestOf(0));
        x.write(0, 1);
        Told.ticks(x, 4);
        same("40: place", x.soonestOf(0), 1);
        same("40: up", x.soonestOf(1), 1);
        same("40: ticks", x.soonestOf(2), 2);
        x.tick();
        x.write(0, 1);
        same("40: of like ones the nearest to the head", x.soonestOf(0), 0);
        same("40: down", x.soonestOf(1), 0);
        same("40: ticks", x.soonestOf(2), 1);
        none("40: soonestOf(3)", x.soonestOf(3));
        none("40: soonestOf(-1)", x.soonestOf(-1));
        x = Told.of(TWO);
        x.write(0, 1);
        x.tick();
        x.write(0, 1);
        same("40: down ahead of up", x.soonestOf(1), 0);
    }

    private static void promise41() {
        ReplicaChain x = Told.of(THREE);
        same("41: idle()", x.idle(), 8);
        x.lose(1);
        same("41: idle()", x.idle(), 10);
        x.join(3);
        same("41: who copies is not in the row", x.idle(), 10);
        Told.ticks(x, 2);
        same("41: idle()", x.idle(), 2);
        same("41: without members", Told.of("spare a; spare b;").idle(), 3);
        same("41: without nodes", Told.of("").idle(), 0);
    }

    private static void promise42() {
        ReplicaChain x = Told.of(THREE + "slow 9;");
        same("42: law(1)", x.law(1), 4);
        same("42: law(9)", x.law(9), 36);
        x.write(0, 1);
        same("42: behind what is under way", x.law(1), 12);
        same("42: delays are as told again", x.trip(), 36);
        none("42: law(0)", x.law(0));
        none("42: law(10)", x.law(10));
        for (int i = 0; i < 39; i++) {
            x.write(0, 1);
        }
        none("42: above 40", x.law(1));
        none("42: without members", Told.of("").law(1));
    }

    private static void promise43() {
        ReplicaChain x = Told.of(TWO + "loss 30;");
        int[][] due = {{1, 1}, {7, 10}, {49, 100}, {343, 1000}, {2401, 10000}};
        for (int n = 0; n <= 4; n++) {
            same("43: odds(" + n + ", 0)", x.odds(n, 0), due[n][0]);
            same("43: odds(" + n + ", 1)", x.odds(n, 1), due[n][1]);
        }
        none("43: odds(5, 0)", x.odds(5, 0));
        none("43: odds(-1, 0)", x.odds(-1, 0));
        none("43: odds(1, 2)", x.odds(1, 2));
        none("43: odds(1, -1)", x.odds(1, -1));
        x = Told.of(TWO + "loss 100;");
        same("43: 0 of 1", x.odds(2, 0), 0);
        same("43: 0 of 1", x.odds(2, 1), 1);
        same("43: no ticks", x.odds(0, 0), 1);
        x = Told.of(TWO + "loss 1;");
        same("43: odds(4, 0)", x.odds(4, 0), 96059601);
        same("43: odds(4, 1)", x.odds(4, 1), 100000000);
        x = Told.of(TWO);
        same("43: no losses", x.odds(4, 0), 1);
        same("43: no losses", x.odds(4, 1), 1);
        same("43: one alone is not lost", Told.of("member a; loss 50;").odds(2, 1), 1);
        x = Told.of(TWO + "loss 30; draw 7;");
        x.tick();
        same("43: whatever the seed is", x.odds(1, 1), 10);
    }

    private static void promise44() {
        ReplicaChain x = Told.of(THREE);
        same("44: nothing lies there", x.lies(0), -2);
        x.soonest();
        same("44: lies(2)", x.lies(2), 2);
        same("44: lies(3)", x.lies(3), -2);
        same("44: lies(-1)", x.lies(-1), -2);
        same("44: lies(high)", x.lies(HIGH), -2);
        x.lose(2);
        same("44: it lies there yet", x.lies(2), 2);
    }

    private static void promise45() {
        ReplicaChain x = Told.of(THREE);
        none("45: seen(-1)", x.seen(-1, true));
        none("45: seen(61)", x.seen(61, true));
        same("45: none", x.about(10), 0);
        for (int i = 0; i < 30; i++) {
            same("45: its number", x.seen(2 * i, i > 1), i);
        }
        none("45: there are 30", x.seen(0, false));
        same("45: about(10)", x.about(10), 30);
        x.untell(3);
        none("45: there are 30 yet", x.seen(0, false));
        same("45: seen(60)", Told.of(THREE).seen(60, true), 0);
        none("45: no members told", Told.of("spare s;").seen(0, true));
    }

    private static void promise46() {
        ReplicaChain x = Told.of(THREE);
        Check.no("46: untell(0)", x.untell(0));
        x.seen(0, true);
        same("46: fits", x.fits(0), 0);
        Check.no("46: untell(1)", x.untell(1));
        Check.no("46: untell(-1)", x.untell(-1));
        Check.no("46: untell(low)", x.untell(LOW));
        x.later(5);
        Check.yes("46: untell(0)", x.untell(0));
        Check.no("46: untell(0)", x.untell(0));
        same("46: known at 4", x.fits(4), 0);
        same("46: known at 5", x.fits(5), 4);
    }

    private static void promise47() {
        ReplicaChain x = new ReplicaChain();
        same("47: later(0)", x.later(0), 0);
        none("47: later(-1)", x.later(-1));
        none("47: later(1001)", x.later(1001));
        for (int i = 1; i <= 99; i++) {
            same("47: later(1000)", x.later(1000), 1000 * i);
        }
        same("47: later(999)", x.later(999), 99999);
        none("47: later(2)", x.later(2));
        same("47: about(11)", x.about(11), 99999);
        same("47: later(1)", x.later(1), 100000);
        none("47: later(1)", x.later(1));
        same("47: later(0)", x.later(0), 100000);
        x.chain();
        same("47: the time stays", x.about(11), 100000);
    }

    private static void promise48And49() {
        // Behind 4 ticks with none lost, 2 without the middle or the tail, never without the head.
        ReplicaChain x = Told.of(THREE);
        int[] all = {-1, 0, 1, 2};
        same("48: fits(0)", x.fits(0), 4);
        for (int i = 0; i < 4; i++) {
            same("49: culprit(" + i + ", 0)", x.culprit(i, 0), all[i]);
        }
        same("49: culprit(4, 0)", x.culprit(4, 0), -2);
        same("49: culprit(-1, 0)", x.culprit(-1, 0), -2);
        x.later(3);
        x.seen(2, true);
        same("48: before it is told", x.fits(2), 4);
        same("48: then", x.fits(3), 2);
        same("49: culprit(0, 3)", x.culprit(0, 3), 1);
        same("49: culprit(1, 3)", x.culprit(1, 3), 2);
        same("48: at any time behind", x.fits(HIGH), 2);
        same("48: at any time ahead", x.fits(LOW), 4);
        x.seen(1, true);
        same("48: none", x.fits(3), 0);
        same("49: none", x.culprit(0, 3), -2);
        x = Told.of(THREE);
        x.seen(60, false);
        same("48: the head", x.fits(0), 1);
        same("49: the head", x.culprit(0, 0), 0);
        x.lose(0);
        x.tick();
        same("48: of the chain as it was told", x.culprit(0, 0), 0);
        x = Told.of(THREE);
        x.seen(3, false);
        x.seen(4, true);
        same("49: none was lost", x.culprit(0, 0), -1);
        same("48: none was lost", x.fits(0), 1);
        x = Told.of("spare s; " + TWO + "slow from * 2 + to;");
        same("48: of two", x.fits(0), 3);
        x.seen(0, true);
        same("48: of two, the tail", x.culprit(0, 0), 1);
        x.seen(8, true);
        same("48: of two, the tail", x.fits(0), 1);
        x.untell(0);
        same("48: of two, or none behind 4 and 5", x.fits(0), 1);
        x.seen(9, true);
        x.untell(1);
        same("48: of two, or none behind 4 and 5", x.fits(0), 2);
        same("48: one alone", Told.of("member a;").fits(0), 1);
        same("49: one alone", Told.of("member a;").culprit(0, 0), -1);
        same("48: without members", Told.of("spare a;").fits(0), 0);
        same("49: without members", Told.of("spare a;").culprit(0, 0), -2);
    }

    private static void promise50() {
        ReplicaChain x = Told.of(THREE);
        same("50: ask(0, 0)", x.ask(0, 0), 2);
        same("50: ask(1, 0)", x.ask(1, 0), 2);
        none("50: ask(2, 0)", x.ask(2, 0));
        none("50: ask(-1, 0)", x.ask(-1, 0));
        x.seen(2, false);
        same("50: none or the head", x.ask(0, 0), 4);
        same("50: one is left", x.ask(1, 0), 1);
        x.seen(2, true);
        none("50: none fits", x.ask(0, 0));
        x = Told.of(SIX + "slow 6;");
        same("50: without one of the last five", x.ask(0, 0), 48);
        same("50: five at the most", x.ask(1, 0), 5);
        x.seen(59, false);
        same("50: the last number of ticks", x.ask(0, 0), 60);
        x = Told.of("member a;");
        same("50: one alone", x.ask(0, 0), 0);
        same("50: one alone", x.ask(1, 0), 1);
        none("50: without members", Told.of("").ask(0, 0));
    }

    private static void promise51And52() {
        ReplicaChain x = Told.of(THREE + "copy 5; draw 3; loss 0;");
        none("52: back(0), nothing was kept", x.back(0));
        x.write(0, 7);
        x.write(1, 8);
        Told.ticks(x, 3);
        x.join(3);
        same("51: image(2)", x.image(2), 3);
        same("51: an image is no act", x.about(8), 6);
        int seed = x.about(7);
        Told.ticks(x, 9);
        x.lose(0);
        x.write(0, 9);
        same("51: image(0)", x.image(0), 12);
        none("51: image(3)", x.image(3));
        none("51: image(-1)", x.image(-1));
        none("52: back(3)", x.back(3));
        none("52: back(-1)", x.back(-1));
        none("52: back(1)", x.back(1));
        same("52: acts stay then", x.about(8), 17);
        same("52: back(2)", x.back(2), 3);
        same("52: no acts are kept", x.about(8), 0);
        same("52: none to redo", x.about(9), 0);
        same("52: the row", x.row(0), 0);
        same("52: members", x.about(0), 3);
        same("52: has", x.node(0, 1), 2);
        same("52: clean", x.node(1, 2), 2);
        same("52: who copies", x.node(3, 4), 1);
        same("52: for how long", x.about(5), 5);
        same("52: messages", x.due(0, 1), 1);
        same("52: a write", x.wrote(2, 1), 8);
        same("52: the seed", x.about(7), seed);
        same("52: goes on", x.tick(), 2);
        same("52: the box stays as it was", x.back(2), 3);
        same("52: back(0)", x.back(0), 12);
        same("52: its head", x.row(0), 1);
        same("52: its write", x.wrote(3, 1), 9);
        same("51: without members", Told.of("").image(0), 0);
    }

    private static void promise53() {
        ReplicaChain x = Told.of(THREE + "slow 1 + (2 * back); copy 9; loss 7; draw 100;");
        x.write(0, 1);
        x.write(0, 1);
        x.lose(0);
        x.write(1, 1);
        x.tick();
        x.join(3);
        x.tick();
        x.undo();
        x.seen(3, true);
        x.untell(0);
        x.later(9);
        x.soonest();
        x.feed(0, 0, 0, 0, 0);
        int[] due = {2, 4, 2, 1, 2, 9, 1, (100 * 137 + 71) % 1000, 6, 1, 1, 9, 20, 4, 2, 9, 7};
        for (int what = 0; what < due.length; what++) {
            same("53: about(" + what + ")", x.about(what), due[what]);
        }
        none("53: about(17)", x.about(17));
        none("53: about(-1)", x.about(-1));
        none("53: about(high)", x.about(HIGH));
    }
}
