/** Promises 1 to 10: what there is. */
final class EdgesOfGauges {
    private EdgesOfGauges() {
    }

    static void add(Edges edges) {
        newObject(edges);
        row(edges);
        gauge(edges);
        move(edges);
        reach(edges);
        fail(edges);
        rain(edges);
        of(edges);
        readingAndWorking(edges);
    }

    private static void newObject(Edges edges) {
        edges.add("Promise 1", "All PLOTS; no GAUGE; nothing is KEPT, no IMAGE.",
            "count(0) = 0; count(1) = 256; count(2) = 0; count(3) = 0; count(4) = 0; count(5) = 0; count(6) = 0; kept(0) = NONE",
            "of(0, 0) = UNKNOWN; working(0) = 0; working(63) = 0; restore(0) = STATE; restore(1) = STATE; owner(0, 0, 0) = NONE",
            // nothing of another object
            Scenes.HALVES + "row(0, 1, 0) = 240; image(0) = 1; spread(0) = 24040\nnew\n"
                + "count(0) = 0; count(1) = 256; count(2) = 0; count(4) = 0; count(6) = 0; restore(0) = STATE; working(0) = 0; gauge(0, 0) = 0");
    }

    private static void row(Edges edges) {
        edges.add("Promise 2", "ROW y has the PLOTS from one x to another one",
            """
            row(0, 0, 0) = 241; count(10) = 0; count(30) = 0; row(15, 15, 15) = 226; count(25) = 15; count(45) = 15
            row(7, 0, 15) = 226; count(17) = 0; count(37) = 15; row(0, 15, 15) = 226; count(10) = 15; row(0, 0, 15) = 241; count(30) = 15
            count(11) = 0; count(31) = 15; count(24) = 0; count(44) = 15
            """);
        edges.add("Promise 2", "none, if from is greater than to",
            """
            row(5, 9, 9) = 241; count(15) = 9; count(35) = 9; row(5, 11, 9) = 240; row(5, 10, 9) = 240; count(15) = NONE; count(35) = NONE; count(1) = 240
            row(5, 15, 0) = 240; count(15) = NONE; row(5, 0, 15) = 256; row(5, 1, 0) = 240; row(5, 15, 14) = 240; row(5, 14, 15) = 242
            """,
            Scenes.HALVES + "row(0, 8, 7) = 240; owner(0, 7, 0) = NO; owner(0, 8, 0) = NO; owner(0, 7, 1) = 0; cell(0, 0, 0) = 120");
        edges.add("Promise 2", "how many the CATCHMENT has.",
            "row(0, 0, 15) = 256; row(0, 0, 14) = 255; row(1, 3, 3) = 240\nnew\n" + Scenes.NO_PLOT + "count(1) = 0; row(9, 4, 4) = 1; count(1) = 1");
        edges.add("Promise 2", "OUTSIDE: all three (0 to 15).",
            Scenes.forEach("N", "-1 16 17 -16 256 MAX MIN", """
                row(N, 0, 15) = OUTSIDE; row(0, N, 15) = OUTSIDE; row(0, 0, N) = OUTSIDE; row(0, N, 0) = OUTSIDE; row(0, 15, N) = OUTSIDE
                row(N, 1, 0) = OUTSIDE; row(N, N, N) = OUTSIDE
                """) + "count(1) = 256; row(0, 15, 0) = 240; row(15, 0, 15) = 240");
    }

    private static void gauge(Edges edges) {
        edges.add("Promise 3", "A GAUGE more: its number.",
            "gauge(5, 5) = 0; count(0) = 1; gauge(4, 4) = 1; count(0) = 2; of(0, 0) = 1005; of(1, 0) = 1004; of(1, 1) = 1004");
        edges.add("Promise 3", "OUTSIDE: x, y; NO: there is one at this PLACE; FULL.",
            Scenes.forEach("N", "-21 36 256 MAX MIN", "gauge(N, 0) = OUTSIDE; gauge(0, N) = OUTSIDE; gauge(N, N) = OUTSIDE")
                + "count(0) = 0; gauge(-20, -20) = 0; gauge(35, 35) = 1; gauge(35, -20) = 2; gauge(-20, 35) = 3",
            """
            gauge(3, 4) = 0; gauge(3, 4) = NO; gauge(4, 3) = 1; gauge(3, 3) = 2; gauge(4, 4) = 3; fail(0, 0, 63, 1) = 64; gauge(3, 4) = NO
            move(0, 9, 9) = 61; gauge(3, 4) = 4; gauge(9, 9) = NO
            """,
            Scenes.EIGHT + """
            gauge(1, 15) = FULL; gauge(14, 15) = NO; gauge(36, 36) = OUTSIDE; move(7, 1, 15) = 169; gauge(14, 15) = FULL; gauge(1, 15) = NO
            """,
            // what is restored may have room again
            "gauge(0, 0) = 0; image(0) = 1\n" + Scenes.forEach("G", "1 2 3 4 5 6 7", "gauge(G, 0) = G")
                + "gauge(8, 0) = FULL; restore(0) = 1; gauge(8, 0) = 1; gauge(1, 0) = 2; gauge(0, 0) = NO");
    }

    private static void move(Edges edges) {
        edges.add("Promise 4", "A GAUGE is at another PLACE (or the same): how FAR that is from where it was.",
            """
            gauge(3, 4) = 0; gauge(0, 0) = 1; move(0, 3, 4) = 0; of(0, 0) = 1003; of(0, 1) = 1004; move(0, 6, 8) = 25
            of(0, 0) = 1006; of(0, 1) = 1008; move(0, 6, 7) = 1; move(0, 5, 7) = 1; move(0, 3, 4) = 13; of(1, 0) = 1000
            move(0, -20, -20) = 1105; move(0, 35, 35) = 6050; move(0, 35, -20) = 3025; move(0, -20, -20) = 3025; of(0, 0) = 980
            """);
        edges.add("Promise 4", "UNKNOWN; OUTSIDE: x, y; NO: another one is there.",
            "move(0, 0, 0) = UNKNOWN; gauge(3, 4) = 0; move(1, 0, 0) = UNKNOWN; move(-1, 0, 0) = UNKNOWN; move(0, 0, 0) = 25\n",
            "gauge(3, 4) = 0\n" + Scenes.forEach("N", "-21 36 256 MAX MIN", "move(0, N, 0) = OUTSIDE; move(0, 0, N) = OUTSIDE; move(0, N, N) = OUTSIDE")
                + "of(0, 0) = 1003; of(0, 1) = 1004",
            """
            gauge(3, 4) = 0; gauge(5, 6) = 1; gauge(5, 4) = 2; move(0, 5, 6) = NO; move(0, 5, 4) = NO; of(0, 0) = 1003; of(0, 1) = 1004
            move(1, 5, 6) = 0; move(0, 3, 6) = 4; fail(1, 0, 63, 1) = 64; move(0, 5, 6) = NO; move(1, 7, 7) = 5; move(0, 5, 6) = 4
            move(2, 3, 4) = 4; move(2, 3, 6) = 4; move(2, 5, 6) = NO
            """);
    }

    private static void reach(Edges edges) {
        edges.add("Promise 5", "A GAUGE has another REACH (or the same): which one it had, 1000 added.",
            """
            gauge(3, 4) = 0; gauge(5, 5) = 1; reach(0, 0) = 1000; reach(0, 7) = 1000; reach(0, 7) = 1007; reach(0, -400) = 1007
            reach(0, 400) = 600; reach(0, -1) = 1400; reach(0, 1) = 999; of(0, 2) = 1001; of(1, 2) = 1000; reach(1, 3) = 1000
            """);
        edges.add("Promise 5", "UNKNOWN; OUTSIDE.",
            "reach(0, 0) = UNKNOWN; gauge(3, 4) = 0; reach(1, 0) = UNKNOWN; reach(-1, 0) = UNKNOWN; reach(0, 0) = 1000",
            "gauge(3, 4) = 0\n" + Scenes.forEach("N", "-401 401 1000 -1000 MAX MIN", "reach(0, N) = OUTSIDE") + "of(0, 2) = 1000");
    }

    private static void fail(Edges edges) {
        edges.add("Promise 6", "on all DAYS from one to another one",
            """
            gauge(0, 0) = 0; rain(0, 4, 1) = NONE; rain(0, 5, 1) = NONE; rain(0, 7, 1) = NONE; rain(0, 8, 1) = NONE
            fail(0, 5, 7, 1) = 3; working(4) = 1; working(5) = 0; working(7) = 0; working(8) = 1
            fail(0, 5, 5, 0) = 2; working(5) = 1; working(7) = 0; fail(0, 0, 63, 1) = 64; fail(0, 5, 7, 0) = 61; working(4) = 0
            working(5) = 1; working(7) = 1; working(8) = 0
            """,
            "gauge(0, 0) = 0; fail(0, 0, 0, 1) = 1; fail(0, 63, 63, 1) = 2; fail(0, 31, 32, 1) = 4; fail(0, 1, 62, 0) = 2; fail(0, 0, 63, 0) = 0");
        edges.add("Promise 6", "on how many DAYS it is OUT now.",
            """
            gauge(0, 0) = 0; gauge(1, 1) = 1; fail(0, 2, 2, 0) = 0; fail(0, 2, 5, 1) = 4; fail(0, 4, 9, 1) = 8; fail(0, 4, 9, 1) = 8
            fail(1, 0, 0, 1) = 1; fail(0, 9, 12, 0) = 7; fail(0, 0, 63, 1) = 64; fail(0, 0, 63, 1) = 64; fail(1, 0, 0, 0) = 0; of(0, 3) = 64
            """);
        edges.add("Promise 6", "UNKNOWN; OUTSIDE: both DAYS, from greater than to, on.",
            "fail(0, 0, 0, 1) = UNKNOWN; gauge(0, 0) = 0; fail(1, 0, 0, 1) = UNKNOWN; fail(-1, 0, 0, 1) = UNKNOWN; fail(0, 0, 0, 1) = 1",
            "gauge(0, 0) = 0\n" + Scenes.forEach("N", "-1 64 65 128 MAX MIN", """
                fail(0, N, 63, 1) = OUTSIDE; fail(0, 0, N, 1) = OUTSIDE; fail(0, N, N, 1) = OUTSIDE; fail(0, N, 0, 1) = OUTSIDE
                fail(0, 63, N, 1) = OUTSIDE
                """) + "of(0, 3) = 0",
            "gauge(0, 0) = 0; fail(0, 1, 0, 1) = OUTSIDE; fail(0, 63, 0, 1) = OUTSIDE; fail(0, 63, 62, 0) = OUTSIDE; of(0, 3) = 0; fail(0, 1, 1, 1) = 1",
            "gauge(0, 0) = 0; fail(0, 5, 6, 1) = 2\n" + Scenes.forEach("N", "-1 2 3 256 MAX MIN", "fail(0, 0, 5, N) = OUTSIDE") + "of(0, 3) = 2");
    }

    private static void rain(Edges edges) {
        edges.add("Promise 7", "The READING of a GAUGE on a DAY is n; none, if n is NONE: which one it was (NONE).",
            """
            gauge(0, 0) = 0; gauge(1, 1) = 1; rain(0, 0, 0) = NONE; rain(0, 0, 9999) = 0; rain(0, 0, 9999) = 9999; rain(0, 0, NONE) = 9999
            reading(0, 0) = NONE; rain(0, 0, -6) = NONE; of(0, 4) = 0; rain(0, 0, 5) = NONE; reading(0, 0) = 5; reading(1, 0) = NONE
            rain(0, 63, 6) = NONE; rain(1, 0, 7) = NONE; reading(0, 63) = 6; reading(1, 0) = 7; rain(1, 63, NONE) = NONE; reading(0, 63) = 6
            """,
            "gauge(0, 0) = 0; fail(0, 0, 63, 1) = 64; rain(0, 9, 8) = NONE; rain(0, 9, 7) = 8; working(9) = 0; fail(0, 9, 9, 0) = 63; working(9) = 1");
        edges.add("Promise 7", "UNKNOWN; OUTSIDE: the DAY, n.",
            "rain(0, 0, 1) = UNKNOWN; gauge(0, 0) = 0; rain(1, 0, 1) = UNKNOWN; rain(-1, 0, 1) = UNKNOWN; rain(1, 0, NONE) = UNKNOWN; rain(0, 0, 1) = NONE",
            "gauge(0, 0) = 0; gauge(1, 1) = 1; rain(1, 0, 3) = NONE; rain(0, 63, 4) = NONE\n"
                + Scenes.forEach("N", "-1 64 128 -64 MAX MIN", "rain(0, N, 1) = OUTSIDE; rain(1, N, 1) = OUTSIDE; rain(0, N, NONE) = OUTSIDE; rain(1, N, NONE) = OUTSIDE")
                + "of(0, 4) = 1; of(1, 4) = 1; reading(1, 0) = 3; reading(0, 63) = 4",
            "gauge(0, 0) = 0; rain(0, 0, 4) = NONE\n"
                + Scenes.forEach("N", "-1 -2 -3 -4 -5 -7 10000 65536 MAX MIN", "rain(0, 0, N) = OUTSIDE; rain(0, 1, N) = OUTSIDE")
                + "reading(0, 0) = 4; of(0, 4) = 1");
    }

    private static void of(Edges edges) {
        edges.add("Promise 8", "0 x, 1 y, 2 the REACH (1000 added to all three)",
            """
            gauge(-20, 35) = 0; gauge(35, -20) = 1; gauge(0, 0) = 2; reach(0, -400) = 1000; reach(1, 400) = 1000
            of(0, 0) = 980; of(0, 1) = 1035; of(0, 2) = 600; of(1, 0) = 1035; of(1, 1) = 980; of(1, 2) = 1400
            of(2, 0) = 1000; of(2, 1) = 1000; of(2, 2) = 1000
            """);
        edges.add("Promise 8", "3 on how many DAYS it is OUT, 4 of how many DAYS there is a READING.",
            "gauge(0, 0) = 0; gauge(1, 1) = 1; of(0, 3) = 0; of(0, 4) = 0\n" + everyDay("rain(0, D, 0) = NONE") + """
            of(0, 4) = 64; of(1, 4) = 0; fail(0, 0, 63, 1) = 64; of(0, 3) = 64; of(0, 4) = 64; of(1, 3) = 0; rain(1, 63, 1) = NONE; of(1, 4) = 1
            rain(0, 63, NONE) = 0; rain(0, 0, 9) = 0; of(0, 4) = 63; fail(0, 0, 0, 0) = 63; of(0, 3) = 63
            """);
        edges.add("Promise 8", "UNKNOWN; OUTSIDE.",
            "of(0, 0) = UNKNOWN; gauge(0, 0) = 0; of(1, 0) = UNKNOWN; of(-1, 0) = UNKNOWN; of(0, 0) = 1000",
            "gauge(0, 0) = 0\n" + Scenes.forEach("N", "-1 5 6 256 MAX MIN", "of(0, N) = OUTSIDE"));
    }

    private static void readingAndWorking(Edges edges) {
        edges.add("Promise 9", "The READING of a GAUGE on a DAY (NONE), though it may be OUT.",
            """
            gauge(0, 0) = 0; gauge(1, 1) = 1; reading(0, 0) = NONE; reading(0, 63) = NONE; rain(0, 63, 8) = NONE; rain(1, 0, 9) = NONE
            reading(0, 63) = 8; reading(1, 0) = 9; reading(0, 0) = NONE; fail(0, 0, 63, 1) = 64; reading(0, 63) = 8; reading(0, 0) = NONE
            rain(0, 63, NONE) = 8; reading(0, 63) = NONE; rain(0, 0, 0) = NONE; reading(0, 0) = 0
            """);
        edges.add("Promise 9", "UNKNOWN; OUTSIDE.",
            "reading(0, 0) = UNKNOWN; gauge(0, 0) = 0; reading(1, 0) = UNKNOWN; reading(-1, 63) = UNKNOWN; reading(0, 0) = NONE",
            "gauge(0, 0) = 0; gauge(1, 1) = 1; rain(0, 63, 5) = NONE; rain(1, 0, 6) = NONE\n"
                + Scenes.forEach("N", "-1 64 128 -64 MAX MIN", "reading(0, N) = OUTSIDE; reading(1, N) = OUTSIDE"));
        edges.add("Promise 10", "The set that is WORKING on a DAY.",
            "working(0) = 0; working(63) = 0; gauge(0, 0) = 0; working(0) = 0; rain(0, 0, 0) = NONE; working(0) = 1; working(1) = 0; working(32) = 0",
            Scenes.EIGHT + "working(63) = 255; working(62) = 0; rain(7, 63, NONE) = 8; working(63) = 127; fail(0, 63, 63, 1) = 1; working(63) = 126");
        edges.add("Promise 10", "OUTSIDE.",
            Scenes.HALVES + Scenes.forEach("N", "-1 64 128 -64 MAX MIN", "working(N) = OUTSIDE"));
    }

    private static String everyDay(String text) {
        StringBuilder all = new StringBuilder();
        for (int day = 0; day <= 63; day++) {
            all.append(text.replaceAll("\\bD\\b", Integer.toString(day))).append('\n');
        }
        return all.toString();
    }
}
