/** Promises 11 to 18: cells. */
final class EdgesOfCells {
    private EdgesOfCells() {
    }

    static void add(Edges edges) {
        owner(edges);
        cell(edges);
        border(edges);
        neighbours(edges);
        mean(edges);
        total(edges);
        spread(edges);
        next(edges);
        nextOfAsLittle(edges);
    }

    private static void owner(Edges edges) {
        edges.add("Promise 11", "NONE: none is WORKING.",
            """
            owner(0, 0, 0) = NONE; gauge(0, 0) = 0; owner(0, 0, 0) = NONE; rain(0, 0, 0) = NONE; owner(0, 0, 0) = 0; owner(0, 15, 15) = 0
            owner(1, 0, 0) = NONE; fail(0, 0, 0, 1) = 1; owner(0, 0, 0) = NONE
            """);
        edges.add("Promise 11", "OUTSIDE: the DAY, x, y; NO: the PLOT is not of the CATCHMENT.",
            Scenes.HALVES + Scenes.forEach("N", "-1 64 MAX MIN", "owner(N, 0, 0) = OUTSIDE")
                + Scenes.forEach("N", "-1 16 MAX MIN", "owner(0, N, 0) = OUTSIDE; owner(0, 0, N) = OUTSIDE; owner(1, N, N) = OUTSIDE"),
            Scenes.HALVES + """
            row(15, 4, 10) = 247; owner(0, 3, 15) = NO; owner(0, 4, 15) = 0; owner(0, 10, 15) = 1; owner(0, 11, 15) = NO; owner(1, 3, 15) = NO
            owner(0, 3, 14) = 0; row(15, 5, 4) = 240; owner(0, 4, 15) = NO; owner(0, 5, 15) = NO; owner(1, 5, 15) = NO
            """);
    }

    private static void cell(Edges edges) {
        edges.add("Promise 12", "0 how many PLOTS its CELL has; its WEIGHT: the upper number (1), the lower one (2); 3 how FAR its PLOTS are from it, all added.",
            // a CELL of all PLOTS, one of none, one of one
            Scenes.HALVES + """
            reach(1, -400) = 1000; cell(0, 0, 0) = 256; cell(0, 0, 1) = 1; cell(0, 0, 2) = 1; cell(0, 0, 3) = 39680
            cell(0, 1, 0) = 0; cell(0, 1, 1) = 0; cell(0, 1, 2) = 1; cell(0, 1, 3) = 0
            """,
            // 1 HAS x = 0 alone, until it is as little for 0
            Scenes.ROW_0_ALONE + """
            gauge(1, 0) = 0; gauge(0, 0) = 1; rain(0, 0, 1) = NONE; rain(1, 0, 1) = NONE
            cell(0, 1, 0) = 1; cell(0, 1, 1) = 1; cell(0, 1, 2) = 16; cell(0, 1, 3) = 0
            cell(0, 0, 0) = 15; cell(0, 0, 1) = 15; cell(0, 0, 2) = 16; cell(0, 0, 3) = 1015
            reach(0, 1) = 1000; cell(0, 1, 0) = 0; cell(0, 0, 0) = 16; cell(0, 0, 3) = 1016
            """,
            Scenes.HALVES + "fail(1, 0, 0, 1) = 1; move(0, 35, 35) = 2450; cell(0, 0, 3) = 398080; reach(0, 400) = 1000; cell(0, 0, 3) = 398080");
        edges.add("Promise 12", "UNKNOWN; OUTSIDE.",
            "cell(0, 0, 0) = UNKNOWN; gauge(0, 0) = 0; cell(0, 1, 0) = UNKNOWN; cell(0, -1, 0) = UNKNOWN; cell(0, 0, 0) = 0",
            Scenes.HALVES + Scenes.forEach("N", "-1 64 MAX MIN", "cell(N, 0, 0) = OUTSIDE")
                + Scenes.forEach("N", "-1 4 5 256 MAX MIN", "cell(0, 0, N) = OUTSIDE; cell(1, 0, N) = OUTSIDE") + "count(4) = 0");
    }

    private static void border(Edges edges) {
        edges.add("Promise 13", "How many pairs of PLOTS that touch have one in the CELL of g, and the other one in that of h",
            // one PLOT of 1 touches two of 0
            Scenes.NO_PLOT + """
            row(0, 0, 1) = 2; row(1, 0, 0) = 3; gauge(1, 1) = 0; gauge(0, 0) = 1; rain(0, 0, 1) = NONE; rain(1, 0, 1) = NONE
            border(0, 0, 1) = 2; border(0, 1, 0) = 2; border(0, 1, 1) = 2; border(0, 0, 0) = 6
            """,
            // halves, and a column or a ROW at each edge of the 256 PLOTS
            """
            gauge(0, 7) = 0; gauge(15, 7) = 1; gauge(7, -20) = 2; rain(0, 0, 1) = NONE; rain(1, 0, 1) = NONE
            border(0, 0, 1) = 16; border(0, 1, 0) = 16; move(0, 7, 0) = 98; move(1, 7, 15) = 128; border(0, 0, 1) = 16
            border(0, 0, 2) = 0; border(0, 2, 0) = 0; border(0, 2, 2) = 0
            move(0, 0, 7) = 98; move(1, 1, 7) = 100; border(0, 0, 1) = 16; border(0, 1, 0) = 16
            move(0, 14, 7) = 196; move(1, 15, 7) = 196; border(0, 0, 1) = 16; border(0, 1, 0) = 16
            move(0, 7, 0) = 98; move(1, 7, 1) = 100; border(0, 0, 1) = 16; border(0, 1, 0) = 16
            move(0, 7, 14) = 196; move(1, 7, 15) = 196; border(0, 0, 1) = 16; border(0, 1, 0) = 16
            """);
        edges.add("Promise 13", "h = g: at how many sides of its PLOTS the next PLOT is not of the CATCHMENT, or there is none.",
            // there is none, at all four edges
            Scenes.HALVES + "fail(1, 0, 0, 1) = 1; border(0, 0, 0) = 64; border(0, 1, 1) = 0; border(1, 0, 0) = 0",
            // not of the CATCHMENT, at all four sides
            Scenes.NO_PLOT + """
            gauge(30, 30) = 0; rain(0, 0, 1) = NONE; border(0, 0, 0) = 0; row(8, 8, 8) = 1; border(0, 0, 0) = 4
            row(8, 8, 9) = 2; border(0, 0, 0) = 6; row(9, 8, 9) = 4; border(0, 0, 0) = 8; row(9, 9, 10) = 4; border(0, 0, 0) = 10
            """,
            // both
            Scenes.NO_PLOT + """
            gauge(30, 30) = 0; rain(0, 0, 1) = NONE; row(0, 0, 0) = 1; border(0, 0, 0) = 4; row(15, 15, 15) = 2; border(0, 0, 0) = 8
            row(0, 15, 15) = 2; row(15, 0, 0) = 2; border(0, 0, 0) = 8; row(7, 0, 15) = 18; border(0, 0, 0) = 42
            """,
            // the side to another GAUGE is none of them
            Scenes.HALVES + "border(0, 0, 0) = 32; border(0, 1, 1) = 32; row(5, 1, 0) = 240; border(0, 0, 0) = 47; border(0, 0, 1) = 15");
        edges.add("Promise 13", "UNKNOWN: both; OUTSIDE.",
            "border(0, 0, 0) = UNKNOWN; gauge(0, 0) = 0; border(0, 0, 1) = UNKNOWN; border(0, 1, 0) = UNKNOWN; border(0, -1, 0) = UNKNOWN; border(0, 0, -1) = UNKNOWN",
            Scenes.HALVES + Scenes.forEach("N", "-1 64 MAX MIN", "border(N, 0, 1) = OUTSIDE; border(N, 0, 0) = OUTSIDE") + "count(4) = 0");
    }

    private static void neighbours(Edges edges) {
        edges.add("Promise 14", "The set of all other GAUGES whose CELL has a PLOT that touches one of the CELL of g on a DAY.",
            // none other, then all other ones
            """
            gauge(8, 8) = 0; neighbours(0, 0) = 0; rain(0, 0, 1) = NONE; neighbours(0, 0) = 0
            gauge(8, 2) = 1; gauge(2, 8) = 2; gauge(14, 8) = 3; gauge(8, 14) = 4
            rain(1, 0, 1) = NONE; rain(2, 0, 1) = NONE; rain(3, 0, 1) = NONE; rain(4, 0, 1) = NONE
            neighbours(0, 0) = 30; fail(3, 0, 0, 1) = 1; neighbours(0, 0) = 22; neighbours(0, 3) = 0
            """,
            // in one PLOT only, on each of its four sides
            Scenes.NO_PLOT + """
            row(7, 8, 8) = 1; row(8, 7, 9) = 4; row(9, 8, 8) = 5; gauge(8, 8) = 0; gauge(7, 8) = 1; gauge(9, 8) = 2; gauge(8, 7) = 3; gauge(8, 9) = 4
            rain(0, 0, 1) = NONE; rain(1, 0, 1) = NONE; neighbours(0, 0) = 2; rain(1, 0, NONE) = 1; rain(2, 0, 1) = NONE; neighbours(0, 0) = 4
            rain(2, 0, NONE) = 1; rain(3, 0, 1) = NONE; neighbours(0, 0) = 8; rain(3, 0, NONE) = 1; rain(4, 0, 1) = NONE; neighbours(0, 0) = 16
            neighbours(0, 4) = 1; neighbours(0, 3) = 0
            """,
            // at the edges of the 256 PLOTS
            Scenes.NO_PLOT + """
            gauge(0, 7) = 0; gauge(0, 8) = 1; rain(0, 0, 1) = NONE; rain(1, 0, 1) = NONE
            row(7, 0, 0) = 1; row(8, 0, 0) = 2; neighbours(0, 0) = 2; neighbours(0, 1) = 1; border(0, 0, 1) = 1; border(0, 1, 0) = 1
            row(7, 15, 15) = 2; row(8, 15, 15) = 2; neighbours(0, 0) = 2; neighbours(0, 1) = 1; border(0, 0, 1) = 1; border(0, 1, 0) = 1
            row(7, 1, 0) = 1; row(8, 1, 0) = 0; move(0, 7, 0) = 98; move(1, 8, 0) = 128
            row(0, 7, 8) = 2; neighbours(0, 0) = 2; neighbours(0, 1) = 1; border(0, 0, 1) = 1; border(0, 1, 0) = 1
            row(0, 1, 0) = 0; row(15, 7, 8) = 2; neighbours(0, 0) = 2; neighbours(0, 1) = 1; border(0, 0, 1) = 1; border(0, 1, 0) = 1
            """,
            // a GAUGE without a PLOT, a CATCHMENT without one
            Scenes.HALVES + "reach(0, 400) = 1000; neighbours(0, 0) = 0; neighbours(0, 1) = 0; reach(0, 0) = 1400; neighbours(0, 1) = 1",
            Scenes.HALVES + Scenes.NO_PLOT + "neighbours(0, 0) = 0; neighbours(0, 1) = 0");
        edges.add("Promise 14", "UNKNOWN; OUTSIDE.",
            "neighbours(0, 0) = UNKNOWN; gauge(0, 0) = 0; neighbours(0, 1) = UNKNOWN; neighbours(0, -1) = UNKNOWN; neighbours(0, 0) = 0",
            Scenes.HALVES + Scenes.forEach("N", "-1 64 MAX MIN", "neighbours(N, 0) = OUTSIDE") + "count(4) = 0");
    }

    private static void mean(Edges edges) {
        edges.add("Promise 15", "The MEAN of a DAY: the upper number (what = 0), the lower one (1).",
            // the least and the greatest READINGS
            Scenes.HALVES + """
            rain(0, 0, 0) = 10; rain(1, 0, 0) = 21; mean(0, 0) = 0; mean(0, 1) = 1; rain(0, 0, 9999) = 0; rain(1, 0, 9999) = 0
            mean(0, 0) = 9999; mean(0, 1) = 1; rain(0, 0, 9998) = 9999; mean(0, 0) = 19997; mean(0, 1) = 2
            """,
            // as large a fraction as there is: 128 PLOTS of 9999, 127 of 9998
            Scenes.HALVES + "rain(1, 0, 9999) = 21; rain(0, 0, 9998) = 10; row(9, 1, 15) = 255; mean(0, 0) = 2549618; mean(0, 1) = 255",
            Scenes.ROW_0_ALONE + "row(0, 9, 9) = 1; gauge(0, 0) = 0; rain(0, 0, 7) = NONE; mean(0, 0) = 7; mean(0, 1) = 1",
            // as many GAUGES as there can be
            Scenes.EIGHT + "mean(63, 0) = 9; mean(63, 1) = 2; rain(7, 63, 9999) = 8; mean(63, 0) = 10027; mean(63, 1) = 8");
        edges.add("Promise 15", "OUTSIDE; STATE: it has none.",
            Scenes.HALVES + Scenes.forEach("N", "-1 64 MAX MIN", "mean(N, 0) = OUTSIDE") + Scenes.forEach("N", "-1 2 3 MAX MIN", "mean(0, N) = OUTSIDE; mean(1, N) = OUTSIDE"),
            Scenes.HALVES + "mean(1, 0) = STATE; mean(1, 1) = STATE; fail(0, 0, 0, 1) = 1; mean(0, 0) = 21; fail(1, 0, 0, 1) = 1; mean(0, 0) = STATE",
            Scenes.HALVES + Scenes.NO_PLOT + "mean(0, 0) = STATE; mean(0, 1) = STATE");
    }

    private static void total(Edges edges) {
        edges.add("Promise 16", "The MEANS of all DAYS from one to another one that have one, added",
            // both ends are of it, and what is beyond them is not
            Scenes.HALVES + """
            rain(0, 4, 1) = NONE; rain(0, 5, 2) = NONE; rain(0, 6, 4) = NONE; rain(0, 7, 8) = NONE; rain(0, 63, 16) = NONE
            total(5, 6, 0) = 6; total(5, 5, 0) = 2; total(4, 7, 0) = 15; total(63, 63, 0) = 16; total(8, 62, 0) = 0; total(8, 62, 1) = 1
            total(1, 3, 2) = 0; total(0, 63, 0) = 93; total(0, 63, 1) = 2; total(0, 0, 0) = 31; total(4, 63, 2) = 5
            """,
            // all DAYS at the most
            "gauge(0, 0) = 0\n" + everyDay("rain(0, D, 9999) = NONE") + "total(0, 63, 0) = 639936; total(0, 63, 1) = 1; total(0, 63, 2) = 64",
            // and beyond what 24 bits hold, in a fraction
            "gauge(0, 0) = 0; gauge(0, 15) = 1; row(0, 0, 14) = 255; rain(1, 0, 9998) = NONE\n" + everyDay("rain(0, D, 9999) = NONE") + """
            total(0, 63, 0) = 163183552; total(0, 63, 1) = 255; fail(1, 0, 0, 1) = 1; total(0, 63, 0) = 639936; total(0, 63, 1) = 1
            """);
        edges.add("Promise 16", "how many have one (2).",
            Scenes.HALVES + "total(0, 63, 2) = 1; total(1, 63, 2) = 0; rain(1, 63, 0) = NONE; total(0, 63, 2) = 2; total(1, 63, 2) = 1; fail(1, 63, 63, 1) = 1; total(0, 63, 2) = 1",
            Scenes.HALVES + Scenes.NO_PLOT + "total(0, 63, 2) = 0; total(0, 63, 0) = 0; total(0, 63, 1) = 1");
        edges.add("Promise 16", "OUTSIDE: both DAYS, from greater than to, what.",
            Scenes.HALVES + Scenes.forEach("N", "-1 64 MAX MIN", """
                total(N, 63, 0) = OUTSIDE; total(0, N, 0) = OUTSIDE; total(N, N, 0) = OUTSIDE; total(N, 0, 0) = OUTSIDE; total(63, N, 0) = OUTSIDE
                """),
            Scenes.HALVES + "total(1, 0, 0) = OUTSIDE; total(63, 0, 2) = OUTSIDE; total(63, 62, 1) = OUTSIDE; total(1, 1, 0) = 0",
            Scenes.HALVES + Scenes.forEach("N", "-1 3 4 MAX MIN", "total(0, 0, N) = OUTSIDE; total(1, 1, N) = OUTSIDE") + "count(4) = 0");
    }

    private static void spread(Edges edges) {
        edges.add("Promise 17", "NONE: it is empty.",
            "spread(0) = NONE; gauge(0, 0) = 0; spread(0) = NONE; rain(0, 0, 0) = NONE; spread(0) = 39680; spread(1) = NONE; fail(0, 0, 0, 1) = 1; spread(0) = NONE",
            // 0 is a SPREAD too
            Scenes.NO_PLOT + "gauge(4, 4) = 0; spread(0) = NONE; rain(0, 0, 0) = NONE; spread(0) = 0; row(4, 4, 4) = 1; spread(0) = 0; row(4, 4, 5) = 2; spread(0) = 1",
            "gauge(35, 35) = 0; rain(0, 0, 0) = NONE; spread(0) = 398080; move(0, -20, -20) = 6050; spread(0) = 398080");
        edges.add("Promise 17", "OUTSIDE.",
            Scenes.HALVES + Scenes.forEach("N", "-1 64 128 MAX MIN", "spread(N) = OUTSIDE"));
    }

    private static void next(Edges edges) {
        edges.add("Promise 18", "Of all PLOTS of the CATCHMENT at which no GAUGE is",
            // the best PLOTS are taken, by GAUGES that are not WORKING
            Scenes.ROW_0_ALONE + """
            next(0, 0) = 7; gauge(7, 0) = 0; next(0, 0) = 8; gauge(8, 0) = 1; next(0, 0) = 6; next(0, 2) = 376
            rain(0, 0, 1) = NONE; fail(0, 0, 0, 1) = 1; next(0, 0) = 6; move(0, 7, 1) = 1; next(0, 0) = 7; next(0, 2) = 344
            """,
            // the best PLOT is not of the CATCHMENT
            Scenes.NO_PLOT + "row(6, 3, 3) = 1; row(8, 3, 3) = 2; next(0, 0) = 3; next(0, 1) = 6; next(0, 2) = 4",
            Scenes.NO_PLOT + "row(0, 0, 0) = 1; next(0, 0) = 0; next(0, 1) = 0; next(0, 2) = 0; row(0, 1, 0) = 0; row(15, 15, 15) = 1; next(0, 0) = 15; next(0, 1) = 15; next(0, 2) = 0");
        edges.add("Promise 18", "with one more GAUGE there, of a greater number than all, its REACH 0",
            // also when there are 8; x = 15 is 1 from GAUGE 7
            Scenes.EIGHT + Scenes.NO_PLOT + "row(15, 14, 15) = 2; next(63, 0) = 15; next(63, 1) = 15; next(63, 2) = 0; next(0, 0) = 15; next(0, 2) = 1; gauge(15, 15) = FULL",
            // of as little an older one HAS the PLOT
            Scenes.ROW_0_ALONE + """
            row(0, 0, 2) = 3; gauge(0, 0) = 0; rain(0, 0, 5) = NONE; reach(0, 1) = 1000; next(0, 0) = 2; next(0, 2) = 1
            reach(0, 0) = 1001; next(0, 0) = 1; next(0, 2) = 1
            """,
            // the REACH of others counts
            Scenes.ROW_0_ALONE + """
            row(0, 0, 2) = 3; gauge(0, 0) = 0; rain(0, 0, 5) = NONE; reach(0, 400) = 1000; next(0, 0) = 1; next(0, 2) = 5
            reach(0, -400) = 1400; next(0, 0) = 1; next(0, 2) = 2; reach(0, 4) = 600; next(0, 0) = 1; next(0, 2) = 5; reach(0, 3) = 1004; next(0, 0) = 2; next(0, 2) = 1
            """,
            Scenes.ROW_0_ALONE + """
            row(0, 0, 2) = 3; gauge(20, 20) = 0; gauge(0, 0) = 1; rain(1, 0, 5) = NONE; reach(1, 400) = 1000; next(0, 0) = 1; next(0, 2) = 5
            reach(1, 3) = 1400; next(0, 0) = 2; next(0, 2) = 1
            """,
            // none is WORKING: the one more alone
            Scenes.ROW_0_ALONE + "gauge(0, 0) = 0; next(0, 0) = 7; next(0, 2) = 344; rain(0, 0, 1) = NONE; next(0, 0) = 10; next(0, 2) = 140");
        edges.add("Promise 18", "NONE: there is no such PLOT. OUTSIDE.",
            Scenes.NO_PLOT + "next(0, 0) = NONE; next(0, 1) = NONE; next(0, 2) = NONE; gauge(0, 0) = 0; rain(0, 0, 1) = NONE; next(0, 2) = NONE; next(0, 3) = OUTSIDE",
            Scenes.ROW_0_ALONE + "row(0, 0, 7) = 8\n" + Scenes.forEach("G", "0 1 2 3 4 5 6 7", "gauge(G, 0) = G") + """
            next(0, 0) = NONE; next(0, 1) = NONE; next(0, 2) = NONE; next(64, 0) = OUTSIDE; row(0, 0, 8) = 9; next(0, 0) = 8; next(0, 1) = 0
            """,
            Scenes.HALVES + Scenes.forEach("N", "-1 64 MAX MIN", "next(N, 0) = OUTSIDE") + Scenes.forEach("N", "-1 3 4 MAX MIN", "next(0, N) = OUTSIDE"));
    }

    private static void nextOfAsLittle(Edges edges) {
        edges.add("Promise 18", "(of as little the least y, then the least x)",
            // four PLOTS, all as good
            Scenes.NO_PLOT + """
            row(4, 6, 7) = 2; row(5, 6, 7) = 4; next(0, 0) = 6; next(0, 1) = 4; next(0, 2) = 4
            gauge(6, 4) = 0; next(0, 0) = 7; next(0, 1) = 4; gauge(7, 4) = 1; next(0, 0) = 6; next(0, 1) = 5
            gauge(6, 5) = 2; next(0, 0) = 7; next(0, 1) = 5; next(0, 2) = 4
            """,
            // the least y at a greater x: 7 4 before 6 5
            Scenes.NO_PLOT + "row(4, 7, 7) = 1; row(5, 6, 6) = 2; next(0, 0) = 7; next(0, 1) = 4; next(0, 2) = 2",
            "next(0, 0) = 7; next(0, 1) = 7; next(0, 2) = 11008");
    }

    private static String everyDay(String text) {
        StringBuilder all = new StringBuilder();
        for (int day = 0; day <= 63; day++) {
            all.append(text.replaceAll("\\bD\\b", Integer.toString(day))).append('\n');
        }
        return all.toString();
    }
}
