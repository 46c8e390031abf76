/** Makes chains from texts. */
final class Told {
    private Told() {
    }

    static ReplicaChain of(String text) {
        ReplicaChain x = new ReplicaChain();
        lay(x, text);
        Check.yes("chain() of " + text, x.chain() >= 0);
        return x;
    }

    static void lay(ReplicaChain x, String text) {
        int before = x.about(12);
        StringBuilder padded = new StringBuilder(text);
        while (padded.length() % 20 != 0) {
            padded.append(' ');
        }
        for (int i = 0; i < padded.length(); i += 20) {
            x.feed(four(padded, i), four(padded, i + 4), four(padded, i + 8), four(padded, i + 12),
                    four(padded, i + 16));
        }
        x.end(before + text.length());
    }

    private static int four(CharSequence text, int at) {
        return text.charAt(at) << 24 | text.charAt(at + 1) << 16 | text.charAt(at + 2) << 8 | text.charAt(at + 3);
    }

    static void ticks(ReplicaChain x, int n) {
        for (int i = 0; i < n; i++) {
            x.tick();
        }
    }
}
