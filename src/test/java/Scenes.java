/** How runs begin: calls, with the answers that are due, in the form of a Script. */
final class Scenes {
    /** A CATCHMENT of ROW 0 alone. */
    static final String ROW_0_ALONE = """
        row(1, 1, 0) = 240; row(2, 1, 0) = 224; row(3, 1, 0) = 208; row(4, 1, 0) = 192
        row(5, 1, 0) = 176; row(6, 1, 0) = 160; row(7, 1, 0) = 144; row(8, 1, 0) = 128
        row(9, 1, 0) = 112; row(10, 1, 0) = 96; row(11, 1, 0) = 80; row(12, 1, 0) = 64
        row(13, 1, 0) = 48; row(14, 1, 0) = 32; row(15, 1, 0) = 16
        """;

    static final String NO_PLOT = ROW_0_ALONE + "row(0, 1, 0) = 0\n";

    /** Two GAUGES, each of which HAS half of the PLOTS: x 0 to 7, x 8 to 15. */
    static final String HALVES = """
        gauge(0, 0) = 0; gauge(15, 0) = 1
        rain(0, 0, 10) = NONE; rain(1, 0, 21) = NONE
        """;

    /** On ROW 0 alone: 0 HAS x 0 to 3, 1 HAS 4 to 11, 2 HAS 12 to 15; without 1: 0 to 7, 8 to 15. */
    static final String THREE_IN_ROW_0 = ROW_0_ALONE + """
        gauge(0, 0) = 0; gauge(7, 0) = 1; gauge(15, 0) = 2
        rain(0, 0, 10) = NONE; rain(1, 0, 18) = NONE; rain(2, 0, 20) = NONE
        """;

    /** GAUGE g HAS the PLOTS of x 2g and 2g + 1 (as FAR from the next one), and the READING g + 1 on DAY 63. */
    static final String EIGHT = """
        gauge(0, 15) = 0; gauge(2, 15) = 1; gauge(4, 15) = 2; gauge(6, 15) = 3
        gauge(8, 15) = 4; gauge(10, 15) = 5; gauge(12, 15) = 6; gauge(14, 15) = 7
        rain(0, 63, 1) = NONE; rain(1, 63, 2) = NONE; rain(2, 63, 3) = NONE; rain(3, 63, 4) = NONE
        rain(4, 63, 5) = NONE; rain(5, 63, 6) = NONE; rain(6, 63, 7) = NONE; rain(7, 63, 8) = NONE
        """;

    /** On DAY d, 1 to 7, the set d is WORKING; on the other DAYS none. */
    static final String A_SET_A_DAY = """
        gauge(0, 0) = 0; gauge(15, 0) = 1; gauge(0, 15) = 2
        rain(0, 1, 1) = NONE; rain(0, 3, 1) = NONE; rain(0, 5, 1) = NONE; rain(0, 7, 1) = NONE
        rain(1, 2, 1) = NONE; rain(1, 3, 1) = NONE; rain(1, 6, 1) = NONE; rain(1, 7, 1) = NONE
        rain(2, 4, 1) = NONE; rain(2, 5, 1) = NONE; rain(2, 6, 1) = NONE; rain(2, 7, 1) = NONE
        """;

    private Scenes() {
    }

    /** The text once for each word, which takes the place of a sign that stands alone. */
    static String forEach(String sign, String words, String text) {
        StringBuilder all = new StringBuilder();
        for (String word : words.split(" ")) {
            all.append(text.replaceAll("\\b" + sign + "\\b", word)).append('\n');
        }
        return all.toString();
    }

    static String times(int n, String text) {
        return (text + "\n").repeat(n);
    }
}
