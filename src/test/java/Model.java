import java.math.BigInteger;
import java.util.ArrayDeque;
import java.util.ArrayList;
import java.util.Arrays;
import java.util.Collections;
import java.util.HashSet;
import java.util.List;
import java.util.Map;
import java.util.Set;
import java.util.TreeMap;
import java.util.TreeSet;

/**
 * The document once more, as literally and slowly as it can be written: every message is an object,
 * every member has sets of writes, every look-ahead is played on a copy. ModelTest compares the two.
 */
final class Model {
    static final List<String> OWN_WORDS = Arrays.asList("member", "spare", "key", "slow", "copy", "loss", "draw",
            "or", "and", "not", "from", "to", "write", "under", "back", "tick");

    interface Expr {
        int of(Map<String, Integer> facts);
    }

    static final class Fault extends RuntimeException {
        private static final long serialVersionUID = 1;
        final int kind;
        final int place;

        Fault(int kind, int place) {
            this.kind = kind;
            this.place = place;
        }
    }

    static final class Told {
        final List<String> nodes = new ArrayList<>();
        final List<Integer> members = new ArrayList<>();
        final List<String> keys = new ArrayList<>();
        Expr slow;
        int copy = 2;
        int loss;
        int draw;
        int units;
    }

    static final class Token {
        String text;
        int place;
        char sort; // w word, n number, s sign, e end, b bad
    }

    static final class Parser {
        final String text;
        final List<Token> tokens = new ArrayList<>();
        int next;
        final Told told = new Told();
        final Set<String> once = new HashSet<>();

        Parser(String text) {
            this.text = text;
            int i = 0;
            while (i < text.length()) {
                char c = text.charAt(i);
                if (c == ' ' || c == '\n') {
                    i++;
                    continue;
                }
                int j = i + 1;
                Token t = new Token();
                t.place = i;
                if (c >= 'a' && c <= 'z') {
                    while (j < text.length() && text.charAt(j) >= 'a' && text.charAt(j) <= 'z') {
                        j++;
                    }
                    t.sort = j - i <= 8 ? 'w' : 'b';
                } else if (c >= '0' && c <= '9') {
                    while (j < text.length() && text.charAt(j) >= '0' && text.charAt(j) <= '9') {
                        j++;
                    }
                    boolean letter = j < text.length() && text.charAt(j) >= 'a' && text.charAt(j) <= 'z';
                    t.sort = j - i <= 4 && !letter ? 'n' : 'b';
                } else {
                    t.sort = ";()<>=+-*/%".indexOf(c) >= 0 ? 's' : 'b';
                }
                t.text = text.substring(i, j);
                tokens.add(t);
                i = j;
            }
            Token end = new Token();
            end.place = text.length();
            end.sort = 'e';
            end.text = "";
            tokens.add(end);
        }

        Token look() {
            Token t = tokens.get(next);
            if (t.sort == 'b') {
                throw new Fault(1, t.place);
            }
            return t;
        }

        boolean at(String what) {
            return look().text.equals(what);
        }

        void cantStand() {
            throw new Fault(2, look().place);
        }

        void want(String what) {
            if (!at(what)) {
                cantStand();
            }
            next++;
        }

        Told chain() {
            while (look().sort != 'e') {
                line();
            }
            return told;
        }

        void line() {
            String word = look().text;
            switch (word) {
                case "member":
                case "spare":
                    if (told.nodes.size() == 8 || word.equals("member") && told.members.size() == 6) {
                        cantStand();
                    }
                    next++;
                    String name = name(told.nodes);
                    if (word.equals("member")) {
                        told.members.add(told.nodes.size());
                    }
                    told.nodes.add(name);
                    break;
                case "key":
                    if (told.keys.size() == 4) {
                        cantStand();
                    }
                    next++;
                    told.keys.add(name(told.keys));
                    break;
                case "slow":
                case "copy":
                case "loss":
                case "draw":
                    if (!once.add(word)) {
                        cantStand();
                    }
                    next++;
                    if (word.equals("slow")) {
                        told.slow = e(0);
                    } else if (word.equals("copy")) {
                        told.copy = number(1, 9);
                    } else if (word.equals("loss")) {
                        told.loss = number(0, 100);
                    } else {
                        told.draw = number(0, 999);
                    }
                    break;
                default:
                    cantStand();
            }
            want(";");
        }

        String name(List<String> known) {
            Token t = look();
            if (t.sort != 'w' || OWN_WORDS.contains(t.text)) {
                cantStand();
            }
            if (known.contains(t.text)) {
                throw new Fault(3, t.place);
            }
            next++;
            return t.text;
        }

        int number(int least, int most) {
            Token t = look();
            if (t.sort != 'n') {
                cantStand();
            }
            int n = Integer.parseInt(t.text);
            if (n < least || n > most) {
                throw new Fault(4, t.place);
            }
            next++;
            return n;
        }

        Expr e(int within) {
            Expr left = both(within);
            while (at("or")) {
                next++;
                Expr a = left;
                Expr b = both(within);
                left = f -> a.of(f) != 0 | b.of(f) != 0 ? 1 : 0;
            }
            return left;
        }

        Expr both(int within) {
            Expr left = one(within);
            while (at("and")) {
                next++;
                Expr a = left;
                Expr b = one(within);
                left = f -> a.of(f) != 0 & b.of(f) != 0 ? 1 : 0;
            }
            return left;
        }

        Expr one(int within) {
            if (at("not")) {
                if (within == 7) {
                    cantStand();
                }
                next++;
                Expr a = one(within + 1);
                return f -> a.of(f) == 0 ? 1 : 0;
            }
            Expr a = sum(within);
            String sign = look().text;
            if (!sign.equals("<") && !sign.equals(">") && !sign.equals("=")) {
                return a;
            }
            next++;
            Expr b = sum(within);
            if (sign.equals("<")) {
                return f -> a.of(f) < b.of(f) ? 1 : 0;
            }
            return sign.equals(">") ? f -> a.of(f) > b.of(f) ? 1 : 0 : f -> a.of(f) == b.of(f) ? 1 : 0;
        }

        Expr sum(int within) {
            Expr left = term(within);
            while (at("+") || at("-")) {
                boolean plus = at("+");
                next++;
                Expr a = left;
                Expr b = term(within);
                left = plus ? f -> a.of(f) + b.of(f) : f -> a.of(f) - b.of(f);
            }
            return left;
        }

        Expr term(int within) {
            Expr left = unit(within);
            while (at("*") || at("/") || at("%")) {
                String sign = look().text;
                next++;
                Expr a = left;
                Expr b = unit(within);
                if (sign.equals("*")) {
                    left = f -> a.of(f) * b.of(f);
                } else if (sign.equals("/")) {
                    left = f -> b.of(f) == 0 ? 0 : a.of(f) / b.of(f);
                } else {
                    left = f -> b.of(f) == 0 ? 0 : a.of(f) % b.of(f);
                }
            }
            return left;
        }

        Expr unit(int within) {
            Token t = look();
            boolean fact = Arrays.asList("from", "to", "write", "under", "back", "tick").contains(t.text);
            if (t.sort != 'n' && !fact && !t.text.equals("(")) {
                cantStand();
            }
            if (told.units == 30 || t.text.equals("(") && within == 7) {
                cantStand();
            }
            told.units++;
            next++;
            if (fact) {
                return f -> f.get(t.text);
            }
            if (t.sort == 'n') {
                int n = Integer.parseInt(t.text);
                return f -> n;
            }
            Expr inner = e(within + 1);
            want(")");
            return inner;
        }
    }

    static final class Message {
        final int write;
        final int due;

        Message(int write, int due) {
            this.write = write;
            this.due = due;
        }
    }

    final class Chain {
        List<Integer> row = new ArrayList<>();
        Map<Integer, TreeSet<Integer>> has = new TreeMap<>();
        Map<Integer, TreeSet<Integer>> clean = new TreeMap<>();
        // By sort ("down", "up"), sender and receiver.
        Map<String, ArrayDeque<Message>> ways = new TreeMap<>();
        Map<Integer, int[]> writes = new TreeMap<>();
        int copier = -1;
        int copyLeft;
        int tick;
        int seed;
        int dropped;
        int pace;

        Chain copy() {
            Chain c = new Chain();
            c.row = new ArrayList<>(row);
            has.forEach((n, s) -> c.has.put(n, new TreeSet<>(s)));
            clean.forEach((n, s) -> c.clean.put(n, new TreeSet<>(s)));
            ways.forEach((w, q) -> c.ways.put(w, new ArrayDeque<>(q)));
            c.writes = new TreeMap<>(writes);
            c.copier = copier;
            c.copyLeft = copyLeft;
            c.tick = tick;
            c.seed = seed;
            c.dropped = dropped;
            c.pace = pace;
            return c;
        }

        void enter(int node) {
            row.add(node);
            has.put(node, new TreeSet<>());
            clean.put(node, new TreeSet<>());
        }

        int head() {
            return row.get(0);
        }

        int tail() {
            return row.get(row.size() - 1);
        }

        int upTo(Map<Integer, TreeSet<Integer>> what, int node) {
            TreeSet<Integer> s = what.get(node);
            return s == null || s.isEmpty() ? 0 : s.last();
        }

        ArrayDeque<Message> way(String sort, int from, int to) {
            return ways.computeIfAbsent(sort + " " + from + " " + to, k -> new ArrayDeque<>());
        }

        void send(String sort, int from, int to, int write) {
            ArrayDeque<Message> q = way(sort, from, to);
            Map<String, Integer> facts = new TreeMap<>();
            facts.put("from", from);
            facts.put("to", to);
            facts.put("write", write);
            facts.put("under", q.size());
            facts.put("back", sort.equals("up") ? 1 : 0);
            facts.put("tick", tick);
            int delay = told.slow == null ? 1 : told.slow.of(facts);
            delay = delay < 1 ? 1 : delay > 9 ? 9 : delay;
            if (pace > 0) {
                delay = pace;
            }
            int due = tick + delay;
            if (!q.isEmpty() && q.peekLast().due > due) {
                due = q.peekLast().due;
            }
            q.addLast(new Message(write, due));
        }

        void gets(int node, int write) {
            has.get(node).add(write);
            int place = row.indexOf(node);
            if (place == row.size() - 1) {
                becomesClean(node, write);
            } else {
                send("down", node, row.get(place + 1), write);
            }
        }

        void becomesClean(int node, int write) {
            clean.get(node).add(write);
            int place = row.indexOf(node);
            if (place > 0) {
                send("up", node, row.get(place - 1), write);
            }
        }

        int give(int key, int value) {
            int number = upTo(has, head()) + 1;
            writes.put(number, new int[] {key, value});
            gets(head(), number);
            return number;
        }

        int turn() {
            int came = 0;
            tick++;
            for (int p = 0; p + 1 < row.size(); p++) {
                ArrayDeque<Message> q = way("down", row.get(p), row.get(p + 1));
                while (!q.isEmpty() && q.peekFirst().due <= tick) {
                    gets(row.get(p + 1), q.pollFirst().write);
                    came++;
                }
            }
            for (int p = row.size() - 1; p >= 1; p--) {
                ArrayDeque<Message> q = way("up", row.get(p), row.get(p - 1));
                while (!q.isEmpty() && q.peekFirst().due <= tick) {
                    becomesClean(row.get(p - 1), q.pollFirst().write);
                    came++;
                }
            }
            if (copier >= 0 && --copyLeft == 0) {
                TreeSet<Integer> had = has.get(tail());
                int node = copier;
                copier = -1;
                enter(node);
                has.get(node).addAll(had);
                clean.get(node).addAll(had);
            }
            return came;
        }

        void draw() {
            seed = (seed * 137 + 71) % 1000;
            if (seed % 100 < told.loss && row.size() >= 2) {
                lost(row.get(seed % row.size()));
            }
        }

        int lost(int node) {
            int place = row.indexOf(node);
            TreeSet<Integer> had = has.remove(node);
            clean.remove(node);
            row.remove(place);
            ways.keySet().removeIf(k -> Arrays.asList(k.split(" ")).contains(String.valueOf(node)));
            if (place == 0) {
                int count = 0;
                for (int w : had) {
                    boolean other = false;
                    for (int m : row) {
                        other |= has.get(m).contains(w);
                    }
                    if (!other) {
                        count++;
                        writes.remove(w);
                    }
                }
                dropped += count;
                return count;
            }
            if (place == row.size()) {
                for (int w : new TreeSet<>(has.get(tail()))) {
                    if (!clean.get(tail()).contains(w)) {
                        becomesClean(tail(), w);
                    }
                }
                if (copier >= 0) {
                    copyLeft = told.copy;
                }
                return 0;
            }
            int ahead = row.get(place - 1);
            int behind = row.get(place);
            for (int w : has.get(ahead)) {
                if (!has.get(behind).contains(w)) {
                    send("down", ahead, behind, w);
                }
            }
            for (int w : clean.get(behind)) {
                if (!clean.get(ahead).contains(w)) {
                    send("up", behind, ahead, w);
                }
            }
            return 0;
        }

        int under(int place, int what) {
            int a = row.get(place);
            int b = row.get(place + 1);
            return what == 0 ? way("down", a, b).size() : way("up", b, a).size();
        }

        int traffic() {
            int n = 0;
            for (int p = 0; p + 1 < row.size(); p++) {
                n += under(p, 0) + under(p, 1);
            }
            return n;
        }

        int ticksTillAnswered(int write) {
            for (int n = 0; n <= 400; n++) {
                if (write == 0 || clean.get(head()).contains(write)) {
                    return n;
                }
                turn();
            }
            return -1;
        }

        int bits(Map<Integer, TreeSet<Integer>> what, int write) {
            int bits = 0;
            for (int n : row) {
                if (what.get(n).contains(write)) {
                    bits |= 1 << n;
                }
            }
            return bits;
        }

        List<Integer> ofKey(TreeSet<Integer> some, int key) {
            List<Integer> list = new ArrayList<>();
            for (int w : some) {
                if (writes.get(w)[0] == key) {
                    list.add(w);
                }
            }
            return list;
        }

        List<Integer> dirty(int node, int key) {
            TreeSet<Integer> d = new TreeSet<>(has.get(node));
            d.removeAll(clean.get(node));
            return ofKey(d, key);
        }

        int lazy(int node, int key) {
            List<Integer> l = ofKey(clean.get(node), key);
            return l.isEmpty() ? -1 : writes.get(l.get(l.size() - 1))[1];
        }

        int read(int node, int key) {
            return lazy(dirty(node, key).isEmpty() ? node : tail(), key);
        }

        List<Integer> versions(int node, int key) {
            List<Integer> l = ofKey(clean.get(node), key);
            List<Integer> v = new ArrayList<>();
            if (!l.isEmpty()) {
                v.add(l.get(l.size() - 1));
            }
            v.addAll(dirty(node, key));
            return v;
        }

        int drops(int nodes) {
            int n = 0;
            for (int w : has.get(head())) {
                if ((bits(has, w) & ~nodes) == 0) {
                    n++;
                }
            }
            return n;
        }

        int members() {
            int bits = 0;
            for (int n : row) {
                bits |= 1 << n;
            }
            return bits;
        }
    }

    String tape = "";
    Told told = new Told();
    int faultKind;
    int faultPlace = -1;
    Chain now = new Chain();
    List<Chain> past = new ArrayList<>();
    List<Chain> future = new ArrayList<>();
    Chain[] boxes = new Chain[3];
    List<Integer> lying = new ArrayList<>();
    List<int[]> seen = new ArrayList<>(); // ticks, is, told, untold
    int time;

    public int feed(int a, int b, int c, int d, int e) {
        if (tape.length() + 20 > 1600) {
            return -1;
        }
        for (int n : new int[] {a, b, c, d, e}) {
            tape += "" + (char) (n >> 24 & 255) + (char) (n >> 16 & 255) + (char) (n >> 8 & 255) + (char) (n & 255);
        }
        return tape.length();
    }

    public int end(int n) {
        if (n < 0 || n > tape.length()) {
            return -1;
        }
        tape = tape.substring(0, n);
        return n;
    }

    public int chain() {
        try {
            told = new Parser(tape).chain();
        } catch (Fault f) {
            faultKind = f.kind;
            faultPlace = f.place;
            return -1;
        }
        faultKind = 0;
        faultPlace = -1;
        tape = "";
        now = asTold();
        past.clear();
        future.clear();
        boxes = new Chain[3];
        lying.clear();
        seen.clear();
        return told.members.size();
    }

    Chain asTold() {
        Chain c = new Chain();
        for (int n : told.members) {
            c.enter(n);
        }
        c.seed = told.draw;
        return c;
    }

    public int fault(int what) {
        return what == 0 ? faultKind : what == 1 ? faultPlace : -1;
    }

    boolean isNode(int n) {
        return n >= 0 && n < told.nodes.size();
    }

    boolean isKey(int n) {
        return n >= 0 && n < told.keys.size();
    }

    boolean empty() {
        return now.row.isEmpty();
    }

    public int row(int place) {
        return place >= 0 && place < now.row.size() ? now.row.get(place) : -1;
    }

    public int node(int node, int what) {
        if (!isNode(node) || what < 0 || what > 4) {
            return -2;
        }
        int h = now.upTo(now.has, node);
        int c = now.upTo(now.clean, node);
        return new int[] {now.row.indexOf(node), h, c, h - c, now.copier == node ? 1 : 0}[what];
    }

    public int under(int place, int what) {
        return place < 0 || place >= now.row.size() - 1 || what < 0 || what > 1 ? -1 : now.under(place, what);
    }

    public int due(int place, int what) {
        if (under(place, what) <= 0) {
            return -1;
        }
        int a = now.row.get(place);
        int b = now.row.get(place + 1);
        return (what == 0 ? now.way("down", a, b) : now.way("up", b, a)).peekFirst().due - now.tick;
    }

    boolean headHas(int write) {
        return !empty() && now.has.get(now.head()).contains(write);
    }

    public int wrote(int write, int what) {
        if (!headHas(write) || what < 0 || what > 4) {
            return -1;
        }
        int[] w = now.writes.get(write);
        return new int[] {w[0], w[1], now.clean.get(now.head()).contains(write) ? 1 : 0, now.bits(now.has, write),
            now.bits(now.clean, write)}[what];
    }

    void act() {
        past.add(now);
        if (past.size() > 40) {
            past.remove(0);
        }
        future.clear();
        now = now.copy();
    }

    boolean canGive() {
        return !empty() && now.upTo(now.has, now.head()) < 40;
    }

    public int write(int key, int value) {
        if (!canGive() || !isKey(key) || value < 0 || value > 99) {
            return -1;
        }
        act();
        return now.give(key, value);
    }

    public int tick() {
        if (empty() || now.tick >= 999) {
            return -1;
        }
        act();
        int came = now.turn();
        now.draw();
        return came;
    }

    public int lose(int node) {
        if (!now.row.contains(node) || now.row.size() == 1) {
            return -1;
        }
        act();
        return now.lost(node);
    }

    public int join(int node) {
        if (!isNode(node) || now.copier >= 0 || now.row.contains(node) || empty() || now.row.size() == 6) {
            return -1;
        }
        act();
        now.copier = node;
        now.copyLeft = told.copy;
        return told.copy;
    }

    public boolean undo() {
        if (past.isEmpty()) {
            return false;
        }
        future.add(now);
        now = past.remove(past.size() - 1);
        return true;
    }

    public boolean redo() {
        if (future.isEmpty()) {
            return false;
        }
        past.add(now);
        now = future.remove(future.size() - 1);
        return true;
    }

    public int read(int node, int key) {
        return !now.row.contains(node) || !isKey(key) ? -2 : now.read(node, key);
    }

    public int lazy(int node, int key) {
        return !now.row.contains(node) || !isKey(key) ? -2 : now.lazy(node, key);
    }

    public int askers(int key) {
        if (!isKey(key)) {
            return -1;
        }
        int bits = 0;
        for (int n : now.row) {
            bits |= now.dirty(n, key).isEmpty() ? 0 : 1 << n;
        }
        return bits;
    }

    public int stale(int key) {
        if (!isKey(key)) {
            return -1;
        }
        int bits = 0;
        for (int n : now.row) {
            bits |= now.lazy(n, key) == now.read(now.tail(), key) ? 0 : 1 << n;
        }
        return bits;
    }

    public int versions(int node, int key) {
        return !now.row.contains(node) || !isKey(key) ? -1 : now.versions(node, key).size();
    }

    public int version(int node, int key, int i) {
        return i < 0 || i >= versions(node, key) ? -1 : now.versions(node, key).get(i);
    }

    public int will(int n, int what) {
        if (n < 0 || n > 60 || what < 0 || what > 1 || empty()) {
            return -1;
        }
        Chain c = now.copy();
        for (int i = 0; i < n; i++) {
            c.turn();
            if (what == 1) {
                c.draw();
            }
        }
        return c.upTo(c.clean, c.head());
    }

    public int when(int write) {
        return headHas(write) ? now.copy().ticksTillAnswered(write) : -1;
    }

    public int still() {
        Chain c = now.copy();
        for (int n = 0; n <= 400; n++) {
            if (c.traffic() == 0 && c.copier < 0) {
                return n;
            }
            c.turn();
        }
        return -1;
    }

    public int drops(int nodes) {
        return (nodes & ~now.members()) != 0 || nodes == now.members() ? -1 : now.drops(nodes);
    }

    public int worst(int n, int what) {
        if (n < 1 || n > 5 || n >= now.row.size() || what < 0 || what > 1) {
            return -1;
        }
        int[] best = {-1, 0};
        for (int nodes = 0; nodes < 256; nodes++) {
            if (Integer.bitCount(nodes) == n && drops(nodes) > best[0]) {
                best = new int[] {drops(nodes), nodes};
            }
        }
        return best[what];
    }

    public int safe() {
        if (empty()) {
            return -1;
        }
        for (int n = now.row.size() - 1; n >= 0; n--) {
            boolean all = true;
            for (int nodes = 0; nodes < 256; nodes++) {
                if (Integer.bitCount(nodes) == n && (nodes & ~now.members()) == 0) {
                    for (int w : now.clean.get(now.head())) {
                        all &= (now.bits(now.has, w) & ~nodes) != 0;
                    }
                }
            }
            if (all) {
                return n;
            }
        }
        return -1;
    }

    public int answered() {
        return empty() ? -1 : now.clean.get(now.head()).size();
    }

    int bestOrder;

    public int soonest() {
        lying.clear();
        if (empty()) {
            return -1;
        }
        bestOrder = Integer.MAX_VALUE;
        List<Integer> sorted = new ArrayList<>(now.row);
        Collections.sort(sorted);
        orders(new ArrayList<>(), sorted);
        return bestOrder;
    }

    void orders(List<Integer> some, List<Integer> rest) {
        if (rest.isEmpty()) {
            Chain c = new Chain();
            some.forEach(c::enter);
            c.tick = now.tick;
            int n = c.ticksTillAnswered(c.give(0, 0));
            if (n < bestOrder) {
                bestOrder = n;
                lying = new ArrayList<>(some);
            }
        }
        for (Integer n : rest) {
            List<Integer> more = new ArrayList<>(some);
            more.add(n);
            List<Integer> less = new ArrayList<>(rest);
            less.remove(n);
            orders(more, less);
        }
    }

    public int weed(int what) {
        if (what < 0 || what > 1 || now.row.size() < 2) {
            return -1;
        }
        int[] best = {-1, -1};
        for (int n : now.row) {
            Chain c = now.copy();
            if (c.lost(n) == 0) {
                int ticks = c.ticksTillAnswered(c.upTo(c.has, c.head()));
                if (ticks >= 0 && (best[0] < 0 || ticks < best[1])) {
                    best = new int[] {n, ticks};
                }
            }
        }
        return best[what];
    }

    public int fullest() {
        int best = -1;
        int most = -1;
        for (int p = 0; p + 1 < now.row.size(); p++) {
            if (now.under(p, 0) + now.under(p, 1) > most) {
                most = now.under(p, 0) + now.under(p, 1);
                best = p;
            }
        }
        return best;
    }

    public int trip() {
        if (!canGive()) {
            return -1;
        }
        Chain c = now.copy();
        return c.ticksTillAnswered(c.give(0, 0));
    }

    public int without(int node) {
        if (!canGive() || !now.row.contains(node) || now.row.size() == 1) {
            return -1;
        }
        Chain c = now.copy();
        int w = c.give(0, 0);
        c.lost(node);
        return c.writes.containsKey(w) ? c.ticksTillAnswered(w) : -1;
    }

    public int latest(int key) {
        if (!isKey(key) || empty()) {
            return -1;
        }
        List<Integer> l = now.ofKey(now.has.get(now.head()), key);
        return l.isEmpty() ? 0 : l.get(l.size() - 1);
    }

    public int traffic() {
        return now.traffic();
    }

    public int lag(int node) {
        return now.row.contains(node) ? now.has.get(now.head()).size() - now.has.get(node).size() : -1;
    }

    public int peak(int what) {
        if (what < 0 || what > 1 || empty()) {
            return -1;
        }
        Chain c = now.copy();
        int[] best = {c.traffic(), 0};
        for (int n = 1; n <= 60; n++) {
            c.turn();
            if (c.traffic() > best[0]) {
                best = new int[] {c.traffic(), n};
            }
        }
        return best[what];
    }

    public int dirtiest(int what) {
        int[] best = {-1, -1, 0};
        for (int n : now.row) {
            for (int k = 0; k < told.keys.size(); k++) {
                if (now.versions(n, k).size() > best[2]) {
                    best = new int[] {n, k, now.versions(n, k).size()};
                }
            }
        }
        return what < 0 || what > 2 || best[2] == 0 ? -1 : best[what];
    }

    public int soonestOf(int what) {
        int[] best = null;
        for (int p = 0; p + 1 < now.row.size(); p++) {
            for (int s = 0; s < 2; s++) {
                if (under(p, s) > 0 && (best == null || due(p, s) < best[2])) {
                    best = new int[] {p, s, due(p, s)};
                }
            }
        }
        return what < 0 || what > 2 || best == null ? -1 : best[what];
    }

    public int idle() {
        int bits = 0;
        for (int n = 0; n < told.nodes.size(); n++) {
            bits |= now.row.contains(n) ? 0 : 1 << n;
        }
        return bits;
    }

    public int law(int n) {
        if (n < 1 || n > 9 || !canGive()) {
            return -1;
        }
        Chain c = now.copy();
        c.pace = n;
        return c.ticksTillAnswered(c.give(0, 0));
    }

    public int odds(int n, int part) {
        if (n < 0 || n > 4 || part < 0 || part > 1) {
            return -1;
        }
        Chain c = now.copy();
        BigInteger up = BigInteger.ONE;
        BigInteger low = BigInteger.ONE;
        for (int i = 0; i < n && !empty(); i++) {
            c.turn();
            if (c.row.size() >= 2) {
                up = up.multiply(BigInteger.valueOf(100 - told.loss));
                low = low.multiply(BigInteger.valueOf(100));
            }
        }
        BigInteger g = up.gcd(low);
        return (part == 0 ? up : low).divide(g).intValueExact();
    }

    public int lies(int i) {
        return i >= 0 && i < lying.size() ? lying.get(i) : -2;
    }

    public int seen(int ticks, boolean is) {
        if (ticks < 0 || ticks > 60 || seen.size() == 30 || told.members.isEmpty()) {
            return -1;
        }
        seen.add(new int[] {ticks, is ? 1 : 0, time, Integer.MAX_VALUE});
        return seen.size() - 1;
    }

    public boolean untell(int n) {
        if (n < 0 || n >= seen.size() || seen.get(n)[3] != Integer.MAX_VALUE) {
            return false;
        }
        seen.get(n)[3] = time;
        return true;
    }

    public int later(int by) {
        if (by < 0 || by > 1000 || time + by > 100000) {
            return -1;
        }
        time += by;
        return time;
    }

    boolean answeredBehind(int lost, int ticks) {
        Chain c = asTold();
        c.give(0, 0);
        if (lost >= 0) {
            c.lost(told.members.get(lost));
        }
        for (int i = 0; i < ticks; i++) {
            c.turn();
        }
        return c.clean.get(c.head()).contains(1);
    }

    List<Integer> fitting(int k) {
        List<Integer> list = new ArrayList<>();
        int size = told.members.size();
        for (int lost = -1; lost < size; lost++) {
            if (size == 0 || size == 1 && lost == 0) {
                continue;
            }
            boolean all = true;
            for (int[] s : seen) {
                if (s[2] <= k && !(s[3] != Integer.MAX_VALUE && s[3] <= k)) {
                    all &= answeredBehind(lost, s[0]) == (s[1] == 1);
                }
            }
            if (all) {
                list.add(lost);
            }
        }
        return list;
    }

    public int fits(int k) {
        return fitting(k).size();
    }

    public int culprit(int i, int k) {
        List<Integer> l = fitting(k);
        return i >= 0 && i < l.size() ? l.get(i) : -2;
    }

    public int ask(int what, int k) {
        List<Integer> l = fitting(k);
        if (l.isEmpty() || what < 0 || what > 1) {
            return -1;
        }
        int[] best = {-1, Integer.MAX_VALUE};
        for (int t = 0; t <= 60; t++) {
            int yes = 0;
            for (int lost : l) {
                yes += answeredBehind(lost, t) ? 1 : 0;
            }
            int most = Math.max(yes, l.size() - yes);
            if (most < best[1]) {
                best = new int[] {t, most};
            }
        }
        return best[what];
    }

    public int image(int box) {
        if (box < 0 || box > 2) {
            return -1;
        }
        boxes[box] = now.copy();
        return now.tick;
    }

    public int back(int box) {
        if (box < 0 || box > 2 || boxes[box] == null) {
            return -1;
        }
        now = boxes[box].copy();
        past.clear();
        future.clear();
        return now.tick;
    }

    public int about(int what) {
        if (what < 0 || what > 16) {
            return -1;
        }
        return new int[] {now.row.size(), told.nodes.size(), told.keys.size(),
            empty() ? 0 : now.has.get(now.head()).size(), now.dropped, now.copier < 0 ? 0 : now.copyLeft, now.tick,
            now.seed, past.size(), future.size(), seen.size(), time, tape.length(), told.units, lying.size(),
            told.copy, told.loss}[what];
    }
}
