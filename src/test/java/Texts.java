/** Texts as numbers that feed() takes. */
final class Texts {
    private Texts() {
    }

    /** Five numbers for each feed(); blanks fill the last one. */
    static int[][] rows(String text) {
        int[][] rows = new int[(text.length() + 19) / 20][5];
        for (int i = 0; i < rows.length * 20; i++) {
            int c = i < text.length() ? text.charAt(i) & 255 : ' ';
            rows[i / 20][i / 4 % 5] |= c << (24 - 8 * (i % 4));
        }
        return rows;
    }

    /** The text comes on an empty tape. */
    static void feed(KeptApart x, String text) {
        for (int[] r : rows(text)) {
            x.feed(r[0], r[1], r[2], r[3], r[4]);
        }
        x.end(text.length());
    }

    static int ship(KeptApart x, String text) {
        feed(x, text);
        return x.ship();
    }

    static String out(KeptApart x) {
        StringBuilder sb = new StringBuilder();
        for (int i = 0; i < x.count(11); i++) {
            sb.append((char) x.octet(i));
        }
        return sb.toString();
    }
}
