/** Promises 22 to 25: what is kept. */
final class EdgesOfKept {
    private EdgesOfKept() {
    }

    static void add(Edges edges) {
        kept(edges);
        image(edges);
        restore(edges);
        count(edges);
        countOfRows(edges);
    }

    private static void kept(Edges edges) {
        edges.add("Promise 22", "The i-th set that is KEPT, from 0 on, from the one that was LOOKED UP longest ago",
            Scenes.A_SET_A_DAY + """
            total(1, 6, 2) = 6; kept(0) = 1; kept(1) = 2; kept(2) = 3; kept(3) = 4; kept(4) = 5; kept(5) = 6
            total(3, 4, 2) = 2; kept(0) = 1; kept(1) = 2; kept(2) = 5; kept(3) = 6; kept(4) = 3; kept(5) = 4
            """);
        edges.add("Promise 22", "NONE: there is none such (i below 0, too).",
            "kept(0) = NONE; kept(-1) = NONE; kept(5) = NONE; kept(6) = NONE; kept(MAX) = NONE; kept(MIN) = NONE",
            Scenes.A_SET_A_DAY + """
            total(1, 1, 2) = 1; kept(0) = 1; kept(1) = NONE; kept(-1) = NONE; total(2, 6, 2) = 5; kept(5) = 6; kept(6) = NONE; kept(7) = NONE
            kept(-1) = NONE; kept(-2) = NONE; kept(-6) = NONE; kept(256) = NONE; kept(MAX) = NONE; kept(MIN) = NONE
            """,
            // what was let go is none such
            Scenes.A_SET_A_DAY + "total(1, 6, 2) = 6; reach(0, 0) = 1000; kept(0) = NONE; kept(5) = NONE; total(5, 5, 2) = 1; kept(0) = 5; kept(1) = NONE");
    }

    private static void image(Edges edges) {
        edges.add("Promise 23", "CATCHMENT, GAUGES with PLACES and REACHES, when they are OUT, READINGS are kept in an IMAGE (0, 1)",
            // the first and the last of all
            Scenes.EIGHT + """
            row(0, 3, 3) = 241; row(15, 1, 0) = 225; reach(7, -400) = 1000; fail(7, 63, 63, 1) = 1; fail(0, 0, 0, 1) = 1; rain(0, 0, 0) = NONE; image(1) = 1
            row(0, 0, 15) = 240; row(15, 5, 6) = 242; move(7, 35, 35) = 841; move(0, -20, -20) = 1625; reach(7, 1) = 600; reach(0, 1) = 1000
            fail(7, 0, 63, 0) = 0; fail(0, 0, 63, 0) = 0; rain(0, 0, NONE) = 0; rain(7, 63, NONE) = 8; restore(1) = 1
            count(0) = 8; count(1) = 225; count(10) = 3; count(30) = 3; count(25) = NONE; count(45) = NONE; count(11) = 0; count(44) = 15
            of(7, 0) = 1014; of(7, 1) = 1015; of(7, 2) = 600; of(7, 3) = 1; of(7, 4) = 1; reading(7, 63) = 8; working(63) = 127
            of(0, 0) = 1000; of(0, 1) = 1015; of(0, 2) = 1000; of(0, 3) = 1; of(0, 4) = 2; reading(0, 0) = 0; working(0) = 0
            """,
            "row(15, 3, 9) = 247; row(0, 3, 9) = 238; image(0) = 1; row(0, 5, 6) = 233; row(15, 5, 6) = 228; restore(0) = 1\n"
                + "count(10) = 3; count(30) = 9; count(25) = 3; count(45) = 9; count(1) = 238",
            // an IMAGE of a new object
            "image(0) = 1\n" + Scenes.HALVES + "row(0, 1, 0) = 240; restore(0) = 1; count(0) = 0; count(1) = 256; working(0) = 0; of(0, 0) = UNKNOWN",
            // one does not touch the other one
            "gauge(1, 1) = 0; image(0) = 1; gauge(2, 2) = 1; image(1) = 1; restore(0) = 1; count(0) = 1; restore(1) = 1; count(0) = 2; restore(0) = 1; count(0) = 1");
        edges.add("Promise 23", "in place of what was kept there: 1.",
            "gauge(1, 1) = 0; image(0) = 1; move(0, 5, 5) = 32; image(0) = 1; move(0, 9, 9) = 32; count(6) = 1; restore(0) = 1; of(0, 0) = 1005",
            "gauge(1, 1) = 0; rain(0, 3, 7) = NONE; image(1) = 1; restore(1) = 1; rain(0, 3, NONE) = 7; image(1) = 1; restore(1) = 1; reading(0, 3) = NONE; count(6) = 2",
            // what is kept stays as it is while what there is changes
            "gauge(1, 1) = 0; image(0) = 1; rain(0, 3, 7) = NONE; fail(0, 3, 3, 1) = 1; reach(0, 2) = 1000; restore(0) = 1; of(0, 2) = 1000; of(0, 3) = 0; of(0, 4) = 0");
        edges.add("Promise 23", "OUTSIDE.",
            Scenes.forEach("N", "-1 2 3 32 256 MAX MIN", "image(N) = OUTSIDE") + "count(6) = 0; restore(0) = STATE; restore(1) = STATE; image(0) = 1; image(1) = 1; count(6) = 3");
    }

    private static void restore(Edges edges) {
        edges.add("Promise 24", "They are as they were when they were kept; the IMAGE stays: 1.",
            """
            gauge(1, 1) = 0; image(0) = 1; gauge(2, 2) = 1; restore(0) = 1; count(0) = 1; count(6) = 1; move(0, 3, 3) = 8; gauge(4, 4) = 1
            restore(0) = 1; count(0) = 1; of(0, 0) = 1001; count(6) = 1; restore(0) = 1; of(0, 0) = 1001
            """,
            // a GAUGE that comes later is a new one
            """
            image(1) = 1; gauge(1, 1) = 0; reach(0, 9) = 1000; fail(0, 0, 63, 1) = 64; rain(0, 63, 5) = NONE; restore(1) = 1; gauge(6, 6) = 0
            of(0, 0) = 1006; of(0, 2) = 1000; of(0, 3) = 0; of(0, 4) = 0; reading(0, 63) = NONE
            """,
            // what is found so far is not of it
            Scenes.HALVES + "image(0) = 1; spread(0) = 24320; spread(0) = 24320; restore(0) = 1; count(3) = 1; count(4) = 1; count(2) = 0; spread(0) = 24320; count(4) = 2");
        edges.add("Promise 24", "OUTSIDE; STATE: nothing was kept in it.",
            "image(0) = 1; image(1) = 1\n" + Scenes.forEach("N", "-1 2 3 32 256 MAX MIN", "restore(N) = OUTSIDE"),
            Scenes.forEach("N", "-1 2 3 32 256 MAX MIN", "restore(N) = OUTSIDE") + "restore(0) = STATE; restore(1) = STATE",
            "image(0) = 1; restore(1) = STATE; restore(0) = 1; restore(1) = STATE; image(1) = 1; restore(1) = 1",
            "image(1) = 1; restore(0) = STATE; restore(1) = 1; restore(0) = STATE; image(0) = 1; restore(0) = 1");
    }

    private static void count(Edges edges) {
        edges.add("Promise 25", "How many GAUGES (0), PLOTS of the CATCHMENT (1), sets that are KEPT (2)",
            "count(0) = 0; count(1) = 256; count(2) = 0\n" + Scenes.EIGHT + "count(0) = 8; gauge(1, 1) = FULL; count(0) = 8; doubt(63, 0) = 129; count(2) = 6",
            Scenes.NO_PLOT + "count(1) = 0; row(0, 0, 0) = 1; count(1) = 1");
        edges.add("Promise 25", "how many sets were FOUND so far (3), WORKED OUT (4), how many went for another one (5)",
            Scenes.A_SET_A_DAY + """
            count(3) = 0; count(4) = 0; count(5) = 0; total(1, 6, 2) = 6; count(3) = 0; count(4) = 6; count(5) = 0; total(1, 6, 2) = 6; count(3) = 6; count(4) = 6
            total(7, 7, 2) = 1; count(3) = 6; count(4) = 7; count(5) = 1; total(1, 1, 2) = 1; count(4) = 8; count(5) = 2; count(2) = 6
            """,
            // what is let go went for no other one; what was counted so far stays
            Scenes.A_SET_A_DAY + """
            total(1, 7, 2) = 7; total(7, 7, 2) = 1; reach(0, 0) = 1000; count(2) = 0; count(3) = 1; count(4) = 7; count(5) = 1
            total(1, 6, 2) = 6; count(4) = 13; count(5) = 1; total(7, 7, 2) = 1; count(5) = 2
            """);
        edges.add("Promise 25", "which IMAGES are kept (6: 1 the first, 2 the second, added)",
            "count(6) = 0; image(0) = 1; count(6) = 1; image(0) = 1; count(6) = 1; image(1) = 1; count(6) = 3; restore(0) = 1; restore(1) = 1; count(6) = 3",
            "image(1) = 1; count(6) = 2; image(1) = 1; count(6) = 2; restore(1) = 1; count(6) = 2; image(0) = 1; count(6) = 3");
    }

    private static void countOfRows(Edges edges) {
        edges.add("Promise 25", "from where on ROW 0 to 15 has PLOTS (10 to 25; NONE: it has none), up to where (30 to 45; NONE).",
            """
            row(0, 2, 3) = 242; row(15, 4, 5) = 228; count(10) = 2; count(30) = 3; count(25) = 4; count(45) = 5; count(11) = 0; count(31) = 15
            count(24) = 0; count(44) = 15; row(0, 3, 2) = 226; row(15, 15, 0) = 224; count(10) = NONE; count(30) = NONE; count(25) = NONE; count(45) = NONE
            row(0, 0, 0) = 225; row(15, 15, 15) = 226; count(10) = 0; count(30) = 0; count(25) = 15; count(45) = 15
            """,
            // each ROW has a number of its own
            everyRow("row(Y, 0, Y) = N") + everyRow("count(T) = Y"));
        edges.add("Promise 25", "OUTSIDE.",
            Scenes.forEach("N", "-1 -6 7 8 9 26 27 28 29 46 47 256 MAX MIN", "count(N) = OUTSIDE"));
    }

    /** Of ROW Y: T is what count() takes for where it ends; N how many PLOTS there are when it and those before it end at Y. */
    private static String everyRow(String text) {
        StringBuilder all = new StringBuilder();
        int plots = 256;
        for (int y = 0; y <= 15; y++) {
            plots -= 15 - y;
            all.append(text.replaceAll("\\bY\\b", "" + y).replaceAll("\\bT\\b", "" + (30 + y)).replaceAll("\\bN\\b", "" + plots)).append('\n');
        }
        return all.toString();
    }
}
