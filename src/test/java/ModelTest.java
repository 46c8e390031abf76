import java.lang.reflect.Method;
import java.util.ArrayList;
import java.util.Arrays;
import java.util.HashMap;
import java.util.List;
import java.util.Map;
import java.util.Random;

/** The class and the model are given the same calls, drawn from fixed seeds, and must answer alike. */
public final class ModelTest {
    private static final int CALLS = 500;
    private static final String[] ACTS = {"tick", "tick", "tick", "tick", "tick", "write", "write", "write", "write",
        "lose", "join", "join", "undo", "redo"};
    private static final Map<String, Method> OURS = new HashMap<>();
    private static final Map<String, Method> MODELS = new HashMap<>();
    private static final List<String> QUERIES = new ArrayList<>();

    private final Random random;
    private final int run;
    private final ReplicaChain ours = new ReplicaChain();
    private final Model model = new Model();
    private int calls;
    private int soonests;

    private ModelTest(int run) {
        this.run = run;
        random = new Random(7919L * run + 13);
    }

    public static void main(String[] args) throws Exception {
        for (Method m : ReplicaChain.class.getDeclaredMethods()) {
            if (java.lang.reflect.Modifier.isPublic(m.getModifiers())) {
                OURS.put(m.getName(), m);
                MODELS.put(m.getName(), Model.class.getDeclaredMethod(m.getName(), m.getParameterTypes()));
                QUERIES.add(m.getName());
            }
        }
        QUERIES.sort(null);
        QUERIES.removeAll(Arrays.asList("feed", "end", "chain", "image", "back", "later", "untell"));
        int runs = args.length > 2 ? Integer.parseInt(args[2]) : 400;
        for (int run = 0; run < runs; run++) {
            new ModelTest(run).play();
        }
        for (int run = 0; run < 10 * runs; run++) {
            new ModelTest(run).readTexts();
        }
        Check.finish("ModelTest");
    }

    private int call(String name, Object... args) throws Exception {
        calls++;
        Object got = OURS.get(name).invoke(ours, args);
        Object due = MODELS.get(name).invoke(model, args);
        Check.same("run " + run + ", call " + calls + ": " + name + Arrays.toString(args), number(got), number(due));
        return number(got);
    }

    private static int number(Object answer) {
        return answer instanceof Boolean ? (Boolean) answer ? 1 : 0 : (Integer) answer;
    }

    private void feed(String text) throws Exception {
        StringBuilder padded = new StringBuilder(text);
        while (padded.length() % 20 != 0) {
            padded.append(' ');
        }
        int before = model.tape.length();
        for (int i = 0; i < padded.length(); i += 20) {
            Object[] words = new Object[5];
            for (int w = 0; w < 5; w++) {
                int four = 0;
                for (int b = 0; b < 4; b++) {
                    four = four << 8 | padded.charAt(i + 4 * w + b);
                }
                words[w] = four;
            }
            call("feed", words);
        }
        call("end", before + text.length());
    }

    private void play() throws Exception {
        tellGoodChain();
        int actsOf100 = 20 + random.nextInt(60);
        while (calls < CALLS) {
            int dice = random.nextInt(1000);
            if (dice < 3) {
                tellGoodChain();
            } else if (dice < 15) {
                call("image", random.nextInt(5) - 1);
            } else if (dice < 23) {
                call("back", random.nextInt(5) - 1);
            } else if (dice < 40) {
                call("later", random.nextInt(4) == 0 ? random.nextInt(1200) - 100 : random.nextInt(5));
            } else if (dice < 55) {
                call("untell", random.nextInt(8) - 1);
            } else if (random.nextInt(100) < actsOf100) {
                act(ACTS[random.nextInt(ACTS.length)]);
            } else {
                act(QUERIES.get(random.nextInt(QUERIES.size())));
            }
        }
    }

    private void act(String name) throws Exception {
        // The model tries all orders by playing each, which is slow.
        if (name.equals("soonest") && ++soonests > 3) {
            return;
        }
        Class<?>[] types = OURS.get(name).getParameterTypes();
        Object[] args = new Object[types.length];
        for (int i = 0; i < args.length; i++) {
            args[i] = types[i] == boolean.class ? (Object) random.nextBoolean() : (Object) argument(name, i);
        }
        call(name, args);
    }

    private int argument(String name, int i) {
        if (random.nextInt(60) == 0) {
            int[] odd = {Integer.MIN_VALUE, Integer.MAX_VALUE, -1, -2, 256, 100000};
            return odd[random.nextInt(odd.length)];
        }
        switch (name) {
            case "write":
                return i == 0 ? random.nextInt(Math.max(1, model.told.keys.size())) : random.nextInt(6) * 20;
            case "wrote":
            case "when":
                return i == 0 ? random.nextInt(20) : random.nextInt(6);
            case "will":
                return i == 0 ? random.nextInt(64) : random.nextInt(2);
            case "drops":
                return random.nextInt(64) & (random.nextInt(4) == 0 ? 255 : model.now.members());
            case "seen":
                return random.nextInt(20) == 0 ? 61 : random.nextInt(40);
            case "fits":
                return random.nextInt(40);
            case "culprit":
            case "ask":
                return i == 0 ? random.nextInt(3) : random.nextInt(40);
            case "about":
                return random.nextInt(18);
            default:
                return random.nextInt(7);
        }
    }

    private void tellGoodChain() throws Exception {
        call("end", 0);
        feed(goodText());
        if (call("chain") < 0) {
            call("fault", 0);
            call("fault", 1);
        }
    }

    private String goodText() {
        List<String> lines = new ArrayList<>();
        int members = random.nextInt(12) == 0 ? random.nextInt(2) : 1 + random.nextInt(6);
        for (int i = 0; i < members; i++) {
            lines.add("member m" + "abcdef".charAt(i) + ";");
        }
        int spares = random.nextInt(Math.min(4, 9 - members));
        for (int i = 0; i < spares; i++) {
            lines.add("spare s" + "abcdef".charAt(i) + ";");
        }
        int keys = random.nextInt(10) == 0 ? 0 : 1 + random.nextInt(4);
        for (int i = 0; i < keys; i++) {
            lines.add("key k" + "abcd".charAt(i) + ";");
        }
        if (random.nextInt(5) > 0) {
            lines.add("slow " + expression(random.nextInt(4)) + ";");
        }
        if (random.nextInt(2) == 0) {
            lines.add("copy " + (1 + random.nextInt(9)) + ";");
        }
        if (random.nextInt(2) == 0) {
            lines.add("loss " + random.nextInt(random.nextBoolean() ? 101 : 12) + ";");
        }
        if (random.nextInt(2) == 0) {
            lines.add("draw " + random.nextInt(1000) + ";");
        }
        java.util.Collections.shuffle(lines, random);
        return String.join(random.nextBoolean() ? " " : "\n", lines);
    }

    private String expression(int depth) {
        String[] atoms = {"from", "to", "write", "under", "back", "tick", "1", "2", "3", "7", "0", "9999"};
        String[] joins = {"+", "-", "*", "/", "%", " < ", ">", "=", " and ", " or "};
        if (depth == 0) {
            return atoms[random.nextInt(atoms.length)];
        }
        String left = expression(depth - 1);
        String right = expression(random.nextInt(depth));
        switch (random.nextInt(6)) {
            case 0:
                return "(not " + left + ")";
            case 1:
                return left;
            default:
                String both = left + joins[random.nextInt(joins.length)] + right;
                return random.nextInt(3) == 0 ? both : "(" + both + ")";
        }
    }

    private void readTexts() throws Exception {
        for (int i = 0; i < 6; i++) {
            call("end", 0);
            String text = random.nextInt(3) == 0 ? tokenSoup() : random.nextInt(4) == 0 ? deepText() : goodText();
            int changes = random.nextInt(3);
            for (int c = 0; c < changes && !text.isEmpty(); c++) {
                text = changed(text);
            }
            feed(text);
            call("chain");
            for (int what = 0; what <= 1; what++) {
                call("fault", what);
            }
            for (int what = 0; what <= 16; what++) {
                call("about", what);
            }
        }
    }

    private String changed(String text) {
        int place = random.nextInt(text.length());
        String bits = "abz09;()<>=+-*/% \n\t\u00e9A_";
        String bit = String.valueOf(bits.charAt(random.nextInt(bits.length())));
        switch (random.nextInt(4)) {
            case 0:
                return text.substring(0, place) + text.substring(place + 1);
            case 1:
                return text.substring(0, place) + bit + text.substring(place);
            case 2:
                return text.substring(0, place) + bit + text.substring(place + 1);
            default:
                return text.substring(0, place);
        }
    }

    private String tokenSoup() {
        String[] lines = {"member a;", "member b;", "member c;", "member d;", "member e;", "member f;", "member g;",
            "spare h;", "spare i;", "spare a;", "key a;", "key b;", "key c;", "key d;", "key e;", "copy 3;", "copy 0;",
            "copy 10;", "loss 100;", "loss 101;", "draw 999;", "draw 1000;", "slow 1;", "slow tick;", "member or;",
            "key tick;", "key abcdefgh;", "key abcdefghi;", "draw 12345;", "loss 5a;", "copy;", "member;", ";"};
        StringBuilder b = new StringBuilder();
        for (int n = random.nextInt(14); n > 0; n--) {
            b.append(lines[random.nextInt(lines.length)]);
        }
        return b.toString();
    }

    private String deepText() {
        StringBuilder b = new StringBuilder("slow ");
        int opened = 0;
        for (int n = random.nextInt(9); n > 0; n--) {
            if (random.nextBoolean()) {
                b.append("not ");
            } else {
                b.append("(");
                opened++;
            }
        }
        b.append("1");
        for (int n = random.nextInt(34); n > 0; n--) {
            b.append(random.nextInt(12) == 0 ? "+(2)" : "+under");
        }
        for (; opened > 0; opened--) {
            b.append(")");
        }
        return b.append(";").toString();
    }
}
