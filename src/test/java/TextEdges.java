/** The boundary cases of the text: terms, part 1, and the promises 1 to 5. */
final class TextEdges {
    private static final String SIGNS = ";()<>=+-*/%";

    private TextEdges() {
    }

    static void run() {
        textOfAtMost();
        wordsOfEight();
        numbersOfFour();
        everyByte();
        partedOrNot();
        asLongAsCanBe();
        noLetterBehindNumbers();
        noNames();
        nodesAtMost();
        keysAtMost();
        copyFrom1To9();
        lossFrom0To100();
        drawFrom0To999();
        onceEach();
        unitsInOne();
        withinOthers();
        faultPlaces();
        leastFaultAtOnePlace();
        numbersThatCantBe();
        namesToldAlready();
        whereNothingElseCanStand();
        newObject();
        feedOrder();
        feedFull();
        endBounds();
        endCuts();
        chainForgets();
        chainForgetsWhatAllHave();
        chainFaultStays();
        chainAnswers();
        faultOfLatest();
    }

    private static void good(String text) {
        fault(text, 0, ReplicaChain.NONE);
    }

    private static void fault(String text, int kind, int place) {
        ReplicaChain x = new ReplicaChain();
        Told.lay(x, text);
        int got = x.chain();
        Edge.same("chain() refuses " + text, got < 0 ? got : 0, kind == 0 ? 0 : ReplicaChain.NONE);
        Edge.same("fault(0) of " + text, x.fault(0), kind);
        Edge.same("fault(1) of " + text, x.fault(1), place);
    }

    private static String times(String text, int n) {
        StringBuilder b = new StringBuilder();
        for (int i = 0; i < n; i++) {
            b.append(text);
        }
        return b.toString();
    }

    private static void textOfAtMost() {
        Edge.of(0, "A CHAIN is a text of at most 1,600 bytes (empty at first)");
        String full = "member a;" + times(" ", 1585) + "key x;";
        Edge.same("a full text", full.length(), 1600);
        ReplicaChain x = Told.of(full);
        Edge.same("its first line", x.about(0), 1);
        Edge.same("its last line", x.about(2), 1);
        fault("member a;" + times(" ", 1586) + "key x", 2, 1600);
        fault(times("\n", 1599) + "a", 2, 1599);
        good(times(" ", 1600));
        fault(times(" ", 1594) + "copy 3", 2, 1600);
        fault(times(" ", 1592) + "member a", 2, 1600);
        Edge.same("empty at first", new ReplicaChain().chain(), 0);
    }

    private static void wordsOfEight() {
        Edge.of(0, "words (a .. z, 8 at most)");
        good("member a;");
        good("member azazazaz;");
        fault("member azazazaza;", 1, 7);
        fault("membermem a;", 1, 0);
        fault("slow backbackb;", 1, 5);
        good("key abcdefgh; key abcdefgi; key abcdefg; key bbcdefgh;");
        good("member a; member aa; member aaa; member z; member zz; member za;");
        good("member a; member ba; member aba; member b; member bb; member ab;");
        fault("key abcdefgh; key abcdefgh;", 3, 18);
        fault("key zzzzzzzz; key zzzzzzzz;", 3, 18);
    }

    private static void numbersOfFour() {
        Edge.of(0, "N (1 to 4 digits)");
        good("slow 0;");
        good("slow 9999;");
        fault("slow 99999;", 1, 5);
        fault("slow 00000;", 1, 5);
        good("draw 0999;");
        fault("draw 00999;", 1, 5);
        fault("slow 1 + 12345678901234567890;", 1, 9);
    }

    private static void everyByte() {
        Edge.of(0, "TOKENS: words (a .. z, 8 at most), N (1 to 4 digits), signs ; ( ) < > = + - * / %; blanks (32, 10)");
        for (int sign = 0; sign < 256; sign++) {
            boolean blank = sign == 32 || sign == 10;
            boolean token = sign >= 'a' && sign <= 'z' || sign >= '0' && sign <= '9' || SIGNS.indexOf(sign) >= 0;
            ReplicaChain x = new ReplicaChain();
            x.feed(sign << 24 | 0x202020, 0x20202020, 0x20202020, 0x20202020, 0x20202020);
            Edge.same("chain() of byte " + sign, x.chain(), blank ? 0 : ReplicaChain.NONE);
            Edge.same("fault(0) of byte " + sign, x.fault(0), blank ? 0 : token ? 2 : 1);
            Edge.same("fault(1) of byte " + sign, x.fault(1), blank ? -1 : 0);
        }
    }

    private static void partedOrNot() {
        Edge.of(0, "blanks (32, 10) part them or not");
        good("member a;member b;slow(1)*2+(3<4);key a;copy 9;");
        good(" member\na\n;\n\nmember  b ; slow ( 1 ) * 2 + ( 3 < 4 ) ;key\n\na; copy\n9;  ");
        fault("mem ber a;", 2, 0);
        fault("copy 1 0;", 2, 7);
        fault("member a\t;", 1, 8);
        fault("member a;\r\n", 1, 9);
    }

    private static void asLongAsCanBe() {
        Edge.of(0, "each is as long as can be");
        fault("membera;", 2, 0);
        fault("slow notback;", 2, 5);
        fault("slow 1 orback;", 2, 7);
        fault("copy 10;", 4, 5);
        Edge.same("copy 007", Told.of("copy 007;").about(15), 7);
        good("member tox;");
    }

    private static void noLetterBehindNumbers() {
        Edge.of(0, "no letter directly behind an N");
        fault("copy 1a;", 1, 5);
        fault("slow 2or 3;", 1, 5);
        fault("slow 1 + 2z;", 1, 9);
        good("slow 2 or 3;");
        good("slow (2)or 3;");
        fault("member a1;", 2, 8);
        good("slow back*2;");
    }

    private static void noNames() {
        Edge.of(0, "Words that stand for themselves here are no NAMES.");
        for (String own : Model.OWN_WORDS) {
            fault("member " + own + ";", 2, 7);
            fault("spare " + own + ";", 2, 6);
            fault("key " + own + ";", 2, 4);
            String rest = own.substring(1);
            String start = own.substring(0, own.length() - 1);
            good("member x" + rest + "; member " + start + "q; key " + rest + "x; key " + own.charAt(0) + ";");
        }
        good("member e; member one; member both; member sum; member term; member unit; spare n; spare name;");
        good("key line; key chain; key word; key sign;");
    }

    private static void nodesAtMost() {
        Edge.of(0, "At most 8 NODES, members (6 at most, a row from the head to the tail, as told) and spares together");
        String six = "member a;member b;member c;member d;member e;member f;";
        good(six);
        fault(six + "member g;", 2, 54);
        fault(six + "member", 2, 54);
        good(six + "spare g;spare h;");
        fault(six + "spare g;spare h;spare i;", 2, 70);
        fault(six + "spare g;member h;", 2, 62);
        String eight = "spare a;spare b;spare c;spare d;spare e;spare f;spare g;spare h;";
        good(eight);
        fault(eight + "spare a;", 2, 64);
        fault(eight + "member a;", 2, 64);
        fault(eight + "member 1", 2, 64);
        good(eight + "key a;");
        good("spare g;spare h;" + six);
        fault("spare g;" + six + "member h;", 2, 62);
        ReplicaChain x = Told.of("spare s; member z; spare t; member a;");
        Edge.same("members", x.about(0), 2);
        Edge.same("nodes", x.about(1), 4);
        Edge.row(x, 1, 3);
    }

    private static void keysAtMost() {
        Edge.of(0, "4 KEYS, numbered as told");
        good("key d;key c;key b;key a;");
        fault("key d;key c;key b;key a;key e;", 2, 24);
        fault("key d;key c;key b;key a;key d;", 2, 24);
        Edge.same("four", Told.of("key d;key c;key b;key a;").about(2), 4);
    }

    private static void copyFrom1To9() {
        Edge.of(0, "copy (1 .. 9; 2 if not told)");
        fault("copy 0;", 4, 5);
        Edge.same("copy 1", Told.of("copy 1;").about(15), 1);
        Edge.same("copy 9", Told.of("copy 9;").about(15), 9);
        fault("copy 10;", 4, 5);
        fault("copy 9999;", 4, 5);
        Edge.same("not told", Told.of("loss 5;").about(15), 2);
    }

    private static void lossFrom0To100() {
        Edge.of(0, "loss (0 .. 100 of 100; 0)");
        Edge.same("loss 0", Told.of("loss 0;").about(16), 0);
        Edge.same("loss 100", Told.of("loss 100;").about(16), 100);
        fault("loss 101;", 4, 5);
        fault("loss 9999;", 4, 5);
        Edge.same("not told", Told.of("copy 5;").about(16), 0);
    }

    private static void drawFrom0To999() {
        Edge.of(0, "draw (0 .. 999; 0)");
        Edge.same("draw 0", Told.of("draw 0;").about(7), 0);
        Edge.same("draw 999", Told.of("draw 999;").about(7), 999);
        fault("draw 1000;", 4, 5);
        fault("draw 9999;", 4, 5);
        Edge.same("not told", Told.of("copy 5;").about(7), 0);
    }

    private static void onceEach() {
        Edge.of(0, "slow, copy, loss, draw once each");
        String all = "slow 1;copy 1;loss 1;draw 1;";
        good(all);
        fault(all + "slow 1;", 2, 28);
        fault(all + "copy 1;", 2, 28);
        fault(all + "loss 1;", 2, 28);
        fault(all + "draw 1;", 2, 28);
        fault(all + "draw", 2, 28);
        fault("copy 1;copy 0;", 2, 7);
    }

    private static void unitsInOne() {
        Edge.of(0, "60 units in all, 30 in one e");
        Edge.same("30 units", Told.of("slow 1" + times("+1", 29) + ";").about(13), 30);
        fault("slow 1" + times("+1", 30) + ";", 2, 65);
        fault("slow 1" + times("+1", 29) + "+(1);", 2, 65);
        fault("slow 1" + times("+1", 29) + "+;", 2, 65);
        good("slow 1" + times("+1", 27) + "+(1);");
        fault("slow 1" + times("+1", 28) + "+(1);", 2, 64);
        fault("slow 1" + times(" or back", 30) + ";", 2, 242);
        good("slow 1" + times(" or back", 29) + ";");
        good("slow 1" + times(" and back", 29) + ";");
        fault("slow 1" + times(" and back", 30) + ";", 2, 272);
        good("slow 1" + times("*1", 29) + ";");
        fault("slow 1" + times("*1", 30) + ";", 2, 65);
        good("slow 1<1" + times(" or 1=1", 14) + ";");
        fault("slow 1<1" + times(" or 1=1", 15) + ";", 2, 110);
        Edge.same("none, if slow is not told", Told.of("copy 1;").about(13), 0);
    }

    private static void withinOthers() {
        Edge.of(0, "a unit ( e ), or a one behind not, within 6 others at most");
        good("slow " + times("(", 7) + "1" + times(")", 7) + ";");
        fault("slow " + times("(", 8) + "1" + times(")", 8) + ";", 2, 12);
        good("slow " + times("not ", 7) + "1;");
        fault("slow " + times("not ", 8) + "1;", 2, 33);
        good("slow " + times("(not ", 3) + "(1)" + times(")", 3) + ";");
        fault("slow " + times("(not ", 3) + "((1))" + times(")", 3) + ";", 2, 21);
        fault("slow " + times("not(", 3) + "(not 1)" + times(")", 3) + ";", 2, 18);
        good("slow " + times("not(", 3) + "not 1" + times(")", 3) + ";");
        good("slow (((((((1)))))))+(((((((2)))))));");
        fault("slow (((((((1)))))))+((((((((2))))))));", 2, 28);
        good("slow " + times("(", 7) + "1+2*3<4 and 5 or 6" + times(")", 7) + ";");
    }

    private static void faultPlaces() {
        Edge.of(0, "FAULTS, the first by its place (bytes from 0; the end: the text's length)");
        fault("?", 1, 0);
        fault("member a", 2, 8);
        fault("member a \n ", 2, 11);
        fault("member", 2, 6);
        fault("slow", 2, 4);
        fault("slow 1 +", 2, 8);
        fault("slow (1", 2, 7);
        fault("slow not", 2, 8);
        fault("copy", 2, 4);
        fault("copy 0; ?", 4, 5);
        fault("member a; member a; copy 0;", 3, 17);
        fault("membr a; ?", 2, 0);
        fault("key a; ? key a; copy 0;", 1, 7);
    }

    private static void leastFaultAtOnePlace() {
        Edge.of(0, "at one place the least: 1 no TOKEN; 2 one that can't stand there");
        fault("copy ?;", 1, 5);
        fault("member 12345;", 1, 7);
        fault("slow 1" + times("+1", 29) + "+?;", 1, 65);
        fault("slow " + times("(", 7) + "?", 1, 12);
        fault("loss 5000a;", 1, 5);
        fault("member a; key copy;", 2, 14);
    }

    private static void numbersThatCantBe() {
        Edge.of(0, "4 a number that can't be");
        fault("copy 0", 4, 5);
        fault("loss   101", 4, 7);
        fault("draw\n1000 1", 4, 5);
        good("slow 0/0;");
    }

    private static void namesToldAlready() {
        Edge.of(0, "3 a NAME told already (of a NODE, of a KEY)");
        fault("member a;member a", 3, 16);
        fault("member a;spare a;", 3, 15);
        fault("spare a;member a;", 3, 15);
        fault("spare a;spare b;spare a;", 3, 22);
        fault("key a;key a;", 3, 10);
        fault("key b;key a;key c;key a", 3, 22);
        good("member a;spare b;key a;key b;");
        fault("member a;member b;member c;member d;member e;member f;spare g;spare a;", 3, 68);
    }

    private static void whereNothingElseCanStand() {
        Edge.of(0, "2 one that can't stand there");
        fault("a", 2, 0);
        fault(";", 2, 0);
        fault("member a;;", 2, 9);
        fault("member;", 2, 6);
        fault("member 5;", 2, 7);
        fault("member (;", 2, 7);
        fault("member a b;", 2, 9);
        fault("spare a key b;", 2, 8);
        fault("copy x;", 2, 5);
        fault("copy ;", 2, 5);
        fault("loss;", 2, 4);
        fault("draw ;", 2, 5);
        fault("spare ;", 2, 6);
        fault("key;", 2, 3);
        fault("copy 1 2;", 2, 7);
        fault("loss (1);", 2, 5);
        fault("draw -1;", 2, 5);
        fault("slow ;", 2, 5);
        fault("slow ();", 2, 6);
        fault("slow 1 2;", 2, 7);
        fault("slow 1);", 2, 6);
        fault("slow (1;", 2, 7);
        fault("slow 1 < 2 > 3;", 2, 11);
        fault("slow 1 = = 3;", 2, 9);
        fault("slow 1 + + 3;", 2, 9);
        fault("slow 1 * not 3;", 2, 9);
        fault("slow 1 < not 3;", 2, 9);
        fault("slow 1 or or 3;", 2, 10);
        fault("slow 1 not 3;", 2, 7);
        fault("slow x;", 2, 5);
        fault("slow key;", 2, 5);
        fault("slow 1; from;", 2, 8);
    }

    private static void newObject() {
        Edge.of(1, "An empty CHAIN (copy 2).");
        ReplicaChain x = new ReplicaChain();
        for (int what = 0; what <= 16; what++) {
            Edge.same("about(" + what + ")", x.about(what), what == 15 ? 2 : 0);
        }
        Edge.row(x);
        Edge.same("node(0, 0)", x.node(0, 0), -2);
        Edge.none("write(0, 0)", x.write(0, 0));
        Edge.none("tick()", x.tick());
        for (int box = 0; box < 3; box++) {
            Edge.none("back(" + box + ")", x.back(box));
        }
        Edge.no("undo()", x.undo());
        Edge.no("redo()", x.redo());
        Edge.no("untell(0)", x.untell(0));
        Edge.same("fits(0)", x.fits(0), 0);
    }

    private static void feedOrder() {
        Edge.of(2, "Twenty bytes come behind those on the TAPE, of each number the highest first");
        int blanks = 0x20202020;
        for (int at = 0; at < 20; at++) {
            int[] five = {blanks, blanks, blanks, blanks, blanks};
            int shift = 24 - at % 4 * 8;
            five[at / 4] = blanks & ~(255 << shift) | 200 << shift;
            ReplicaChain x = new ReplicaChain();
            Edge.same("feed", x.feed(blanks, blanks, blanks, blanks, blanks), 20);
            Edge.same("feed", x.feed(five[0], five[1], five[2], five[3], five[4]), 40);
            Edge.none("chain()", x.chain());
            Edge.same("the place of byte " + at, x.fault(1), 20 + at);
        }
    }

    private static void feedFull() {
        Edge.of(2, "NONE, and nothing comes, if there would be more than 1,600.");
        ReplicaChain x = new ReplicaChain();
        for (int i = 1; i <= 80; i++) {
            Edge.same("feed", x.feed(Edge.LOW, Edge.HIGH, -1, 0, 1), 20 * i);
        }
        Edge.none("feed, full", x.feed(0, 0, 0, 0, 0));
        for (int left = 0; left < 20; left++) {
            x.end(1600 - left);
            Edge.none("feed, " + left + " left", x.feed(0, 0, 0, 0, 0));
            Edge.same("about(12)", x.about(12), 1600 - left);
        }
        x.end(1580);
        Edge.same("feed, 20 left", x.feed(0, 0, 0, 0, 0), 1600);
        x.end(0);
        Told.lay(x, "member a;" + times(" ", 1572));
        Edge.same("about(12)", x.about(12), 1581);
        Edge.none("feed", x.feed(0, 0, 0, 0, 0));
        Edge.same("chain(), nothing came", x.chain(), 1);
    }

    private static void endBounds() {
        Edge.of(3, "NONE, doing nothing, if it has not so many, or n is below 0.");
        ReplicaChain x = new ReplicaChain();
        Edge.none("end(1) of none", x.end(1));
        Edge.same("end(0) of none", x.end(0), 0);
        Edge.refused("end(-1)", y -> y.end(-1));
        Edge.refused("end(low)", y -> y.end(Edge.LOW));
        Edge.refused("end(21)", y -> y.end(21));
        Edge.refused("end(1600)", y -> y.end(1600));
        Edge.refused("end(high)", y -> y.end(Edge.HIGH));
        Edge.idle("end(20)", Edge::busy, y -> y.end(20), 20);
    }

    private static void endCuts() {
        Edge.of(3, "The TAPE has its first n bytes: n");
        ReplicaChain x = new ReplicaChain();
        Told.lay(x, "member a;member b;");
        Edge.same("end(9)", x.end(9), 9);
        Edge.none("end(10) of 9", x.end(10));
        Told.lay(x, "key x;");
        Edge.same("about(12)", x.about(12), 15);
        Edge.same("chain()", x.chain(), 1);
        Edge.same("about(2)", x.about(2), 1);
        Told.lay(x, "member a;");
        Edge.same("end(0)", x.end(0), 0);
        Edge.same("chain()", x.chain(), 0);
        Edge.same("about(0)", x.about(0), 0);
        Told.lay(x, "copy 12ab;");
        x.end(6);
        Edge.none("chain()", x.chain());
        Edge.same("a letter cut off is not behind the number: fault(0)", x.fault(0), 2);
        Edge.same("fault(1)", x.fault(1), 6);
        x.end(5);
        Told.lay(x, "9;");
        Edge.same("chain()", x.chain(), 0);
        Edge.same("about(15)", x.about(15), 9);
    }

    private static void chainForgets() {
        Edge.of(4, "all as told, tick 0, no WRITES, no ACTS are kept, nothing is SEEN, nothing lies there, "
                + "BOXES are empty then; the TIME stays");
        String again = "spare p; member q; member r; key z; slow 4; draw 5;";
        ReplicaChain x = new ReplicaChain();
        Edge.busy(x);
        x.lose(0);
        x.image(0);
        x.image(2);
        x.end(0);
        Told.lay(x, again);
        Edge.same("chain()", x.chain(), 2);
        Edge.same("the tape is empty then", x.about(12), 0);
        Edge.same("fault(0)", x.fault(0), 0);
        ReplicaChain fresh = new ReplicaChain();
        fresh.later(4);
        Told.lay(fresh, again);
        fresh.chain();
        Edge.alike("chain()", x, fresh);
        forgetsAllBefore("member q; member r; spare s; key z;", 2);
        forgetsAllBefore("", 0);
    }

    private static void forgetsAllBefore(String text, int members) {
        ReplicaChain x = new ReplicaChain();
        // Often enough that whatever a text told, and wherever it was held, is told over.
        for (int i = 0; i < 3; i++) {
            Edge.busy(x);
            x.write(0, 16);
            x.lose(0);
            x.image(2);
            x.back(2);
            Edge.yes("some are dropped", x.about(4) > 0);
            x.end(0);
        }
        Told.lay(x, text);
        Edge.same("chain() of " + text, x.chain(), members);
        for (int node = 0; node < x.about(1); node++) {
            for (int what = 1; what <= 4; what++) {
                Edge.same("node(" + node + ", " + what + ")", x.node(node, what), 0);
            }
        }
        ReplicaChain fresh = new ReplicaChain();
        fresh.later(12);
        Told.lay(fresh, text);
        fresh.chain();
        Edge.alike("chain() of " + text, x, fresh);
    }

    private static void chainForgetsWhatAllHave() {
        Edge.of(4, "all as told, tick 0, no WRITES");
        ReplicaChain x = Told.of(Edge.SIX);
        x.write(0, 5);
        x.lose(3);
        x.join(7);
        Told.ticks(x, 12);
        Edge.same("clean to all members", x.wrote(1, 4), 183);
        // Gone back to, it is what the next chain begins in the place of.
        x.image(0);
        x.back(0);
        Told.lay(x, Edge.SIX);
        Edge.same("chain()", x.chain(), 6);
        for (int node = 0; node < 8; node++) {
            for (int what = 1; what <= 4; what++) {
                Edge.same("node(" + node + ", " + what + ")", x.node(node, what), 0);
            }
        }
        Edge.none("wrote(1, 0)", x.wrote(1, 0));
        Edge.none("read(0, 0)", x.read(0, 0));
        Edge.same("traffic()", x.traffic(), 0);
        Edge.same("write(0, 6)", x.write(0, 6), 1);
        Edge.same("when(1)", x.when(1), 10);
    }

    private static void chainFaultStays() {
        Edge.of(4, "NONE: a FAULT (all stays).");
        Edge.refused("chain()", y -> y.chain());
        String[] wrong = {"spare a; member b; key q; slow 9; copy 1; loss 99; draw 1; ?", "member a; member b; copy 0;",
            "key a; key b; key c; key a;", "slow 3 + 4 + 5"};
        for (String text : wrong) {
            ReplicaChain with = new ReplicaChain();
            ReplicaChain without = new ReplicaChain();
            for (ReplicaChain x : new ReplicaChain[] {with, without}) {
                Edge.busy(x);
                x.end(0);
                Told.lay(x, text);
            }
            Edge.none("chain() of " + text, with.chain());
            Edge.alike("chain() of " + text, with, without);
        }
    }

    private static void chainAnswers() {
        Edge.of(4, "how many MEMBERS");
        String text = "key k;";
        for (int members = 0; members <= 6; members++) {
            ReplicaChain x = new ReplicaChain();
            Told.lay(x, text);
            Edge.same("chain() of " + text, x.chain(), members);
            Edge.same("about(0) of " + text, x.about(0), members);
            text += "member m" + "abcdef".charAt(Math.min(5, members)) + ";";
        }
    }

    private static void faultOfLatest() {
        Edge.of(5, "what 0: its FAULT (0), 1: its place (NONE). NONE for another what.");
        ReplicaChain x = new ReplicaChain();
        Edge.same("fault(0) without a chain()", x.fault(0), 0);
        Edge.none("fault(1) without a chain()", x.fault(1));
        Told.lay(x, "copy 0;");
        x.chain();
        Edge.same("fault(0)", x.fault(0), 4);
        Edge.same("fault(1)", x.fault(1), 5);
        for (int what : new int[] {Edge.LOW, -2, -1, 2, 3, 4, 5, Edge.HIGH}) {
            Edge.none("fault(" + what + ")", x.fault(what));
        }
        x.end(1);
        Edge.same("fault(0), as no chain() came", x.fault(0), 4);
        x.chain();
        Edge.same("fault(0) of the latest", x.fault(0), 2);
        Edge.same("fault(1) of the latest", x.fault(1), 0);
        x.end(0);
        x.chain();
        Edge.same("fault(0) of a good one", x.fault(0), 0);
        Edge.none("fault(1) of a good one", x.fault(1));
    }
}
