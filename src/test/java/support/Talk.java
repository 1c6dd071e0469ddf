/** Says texts to an index: as the bytes that feed() wants. */
final class Talk {
    private Talk() { }

    static int[] words(String text) {
        int[] words = new int[(text.length() + 19) / 20 * 5];
        for (int i = 0; i < text.length(); i++) {
            words[i / 4] |= (text.charAt(i) & 255) << 24 - 8 * (i % 4);
        }
        return words;
    }

    static void feed(ClauseIndex x, String text) {
        int[] w = words(text);
        for (int i = 0; i < w.length; i += 5) {
            x.feed(w[i], w[i + 1], w[i + 2], w[i + 3], w[i + 4]);
        }
    }

    static int add(ClauseIndex x, String text) {
        feed(x, text);
        return x.add(text.length());
    }

    static int query(ClauseIndex x, String text) {
        feed(x, text);
        return x.query(text.length());
    }

    static int apply(ClauseIndex x, String text) {
        feed(x, text);
        return x.apply(text.length());
    }

    /** An index that keeps these clauses under 0, 1 and so on. */
    static ClauseIndex of(String... texts) {
        ClauseIndex x = new ClauseIndex();
        for (String text : texts) {
            add(x, text);
        }
        return x;
    }

    /** A clause's codes as a row. */
    static String codes(ClauseIndex x, int k) {
        StringBuilder row = new StringBuilder();
        int code = x.code(k, 0);
        for (int i = 1; code >= 0; i++) {
            row.append(i == 1 ? "" : " ").append(code);
            code = x.code(k, i);
        }
        return row.toString();
    }
}
