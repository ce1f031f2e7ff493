/** What "Terms" says in its parts 1 to 3: what there is, cells, a gauge that is lost. */
final class EdgesOfParts {
    /** Two GAUGES on ROW 0 alone, both WORKING on DAYS 0 and 63. */
    private static final String FIRST_AND_LAST_DAY = Scenes.ROW_0_ALONE + """
        gauge(0, 0) = 0; gauge(15, 0) = 1; rain(0, 0, 10) = NONE; rain(1, 0, 21) = NONE
        rain(0, 63, 10) = NONE; rain(1, 63, 21) = NONE
        """;

    /** One PLOT, 8 8, from which 0 is FAR by 4, and 1 by 1. */
    private static final String ONE_PLOT = Scenes.NO_PLOT + """
        row(8, 8, 8) = 1; gauge(10, 8) = 0; gauge(9, 8) = 1; rain(0, 0, 1) = NONE; rain(1, 0, 2) = NONE
        """;

    private EdgesOfParts() {
    }

    static void add(Edges edges) {
        plotsAndPlaces(edges);
        days(edges);
        whoHas(edges);
        weightsAndMeans(edges);
        touching(edges);
        lost(edges);
    }

    private static void plotsAndPlaces(Edges edges) {
        edges.add("Part 1", "PLOTS are told by x and y, 0 to 15 each.",
            Scenes.HALVES + """
            owner(0, 0, 0) = 0; owner(0, 15, 0) = 1; owner(0, 0, 15) = 0; owner(0, 15, 15) = 1
            """ + Scenes.forEach("X", "-1 16 -16 32 256 MAX MIN",
                "owner(0, X, 0) = OUTSIDE; owner(0, X, 1) = OUTSIDE; owner(0, 0, X) = OUTSIDE; owner(0, X, X) = OUTSIDE"));

        edges.add("Part 1", "The CATCHMENT has in each ROW y the PLOTS from one x to another one, or none; at first all 256.",
            "count(1) = 256\n" + Scenes.forEach("N", "10 11 12 13 14 15 16 17 18 19 20 21 22 23 24 25", "count(N) = 0")
                + Scenes.forEach("N", "30 31 32 33 34 35 36 37 38 39 40 41 42 43 44 45", "count(N) = 15"),
            Scenes.HALVES + """
            row(4, 6, 9) = 244; owner(0, 5, 4) = NO; owner(0, 6, 4) = 0; owner(0, 9, 4) = 1; owner(0, 10, 4) = NO
            owner(0, 5, 3) = 0; owner(0, 10, 5) = 1; row(4, 1, 0) = 240; owner(0, 0, 4) = NO; owner(0, 1, 4) = NO; owner(0, 15, 4) = NO
            """);

        edges.add("Part 1", "Up to 8 GAUGES are numbered from 0 on as they come",
            """
            gauge(9, 9) = 0; gauge(8, 8) = 1; gauge(7, 7) = 2; gauge(6, 6) = 3; gauge(5, 5) = 4; gauge(4, 4) = 5; gauge(3, 3) = 6
            count(0) = 7; gauge(2, 2) = 7; count(0) = 8; gauge(1, 1) = FULL; count(0) = 8
            of(0, 0) = 1009; of(3, 0) = 1006; of(7, 0) = 1002
            """);

        edges.add("Part 1", "each at a PLACE x, y of its own, -20 to 35 each (in the CATCHMENT or not)",
            """
            gauge(-20, 35) = 0; gauge(35, -20) = 1; of(0, 0) = 980; of(0, 1) = 1035; of(1, 0) = 1035; of(1, 1) = 980
            gauge(-21, 35) = OUTSIDE; gauge(-20, 36) = OUTSIDE; gauge(36, -20) = OUTSIDE; gauge(35, -21) = OUTSIDE
            gauge(-20, 35) = NO; gauge(-20, 34) = 2; gauge(-19, 35) = 3
            """,
            Scenes.NO_PLOT + """
            gauge(5, 5) = 0; rain(0, 0, 9) = NONE; row(5, 0, 4) = 5; cell(0, 0, 0) = 5; cell(0, 0, 3) = 55; mean(0, 0) = 9
            move(0, 4, 5) = 1; cell(0, 0, 3) = 30; move(0, -20, 35) = 1476; cell(0, 0, 0) = 5; cell(0, 0, 3) = 6930
            """);

        edges.add("Part 1", "with a REACH, -400 to 400 (0 at first).",
            """
            gauge(0, 0) = 0; of(0, 2) = 1000; reach(0, 400) = 1000; of(0, 2) = 1400; reach(0, 401) = OUTSIDE; of(0, 2) = 1400
            reach(0, -400) = 1400; of(0, 2) = 600; reach(0, -401) = OUTSIDE; of(0, 2) = 600
            """,
            "gauge(0, 0) = 0; image(0) = 1; gauge(1, 1) = 1; reach(1, 9) = 1000; restore(0) = 1; gauge(2, 2) = 1; of(1, 2) = 1000");
    }

    private static void days(Edges edges) {
        edges.add("Part 1", "DAYS are 0 to 63.",
            FIRST_AND_LAST_DAY + Scenes.forEach("D", "0 63", """
                reading(0, D) = 10; working(D) = 3; owner(D, 0, 0) = 0; cell(D, 0, 0) = 8; border(D, 0, 1) = 1; neighbours(D, 0) = 2
                mean(D, 0) = 31; total(D, D, 2) = 1; spread(D) = 280; next(D, 0) = 7; next(D, 2) = 72
                shared(D, 0, 1) = 8; estimate(D, 0, 0) = 21; doubt(D, 0) = 3
                """) + "fail(0, 0, 0, 1) = 1; fail(0, 63, 63, 1) = 2; working(0) = 2; working(63) = 2; working(1) = 0; working(62) = 0",
            FIRST_AND_LAST_DAY + Scenes.forEach("D", "-1 64 127 128 -64 256 MAX MIN", """
                fail(0, D, D, 1) = OUTSIDE; fail(0, D, 63, 1) = OUTSIDE; fail(0, 0, D, 1) = OUTSIDE; rain(0, D, 5) = OUTSIDE
                reading(0, D) = OUTSIDE; reading(1, D) = OUTSIDE; working(D) = OUTSIDE; owner(D, 0, 0) = OUTSIDE; cell(D, 0, 0) = OUTSIDE
                border(D, 0, 1) = OUTSIDE; border(D, 0, 0) = OUTSIDE; neighbours(D, 0) = OUTSIDE; mean(D, 0) = OUTSIDE
                total(D, D, 2) = OUTSIDE; total(D, 63, 2) = OUTSIDE; total(0, D, 2) = OUTSIDE; spread(D) = OUTSIDE; next(D, 0) = OUTSIDE
                shared(D, 0, 1) = OUTSIDE; estimate(D, 0, 0) = OUTSIDE; doubt(D, 0) = OUTSIDE
                """) + "of(0, 3) = 0; of(0, 4) = 2; of(1, 4) = 2; reading(0, 0) = 10; reading(1, 0) = 21; working(0) = 3; working(63) = 3");

        edges.add("Part 1", "On each DAY a GAUGE is OUT, or not (at first not)",
            """
            gauge(0, 0) = 0; of(0, 3) = 0; rain(0, 0, 1) = NONE; rain(0, 31, 1) = NONE; rain(0, 32, 1) = NONE; rain(0, 63, 1) = NONE
            working(0) = 1; working(31) = 1; working(32) = 1; working(63) = 1
            fail(0, 0, 0, 1) = 1; working(0) = 0; working(31) = 1; working(32) = 1; working(63) = 1
            fail(0, 31, 31, 1) = 2; working(31) = 0; working(32) = 1; working(63) = 1
            fail(0, 32, 32, 1) = 3; fail(0, 0, 0, 0) = 2; working(0) = 1; working(31) = 0; working(32) = 0; working(63) = 1
            fail(0, 63, 63, 1) = 3; fail(0, 31, 31, 0) = 2; working(31) = 1; working(32) = 0; working(63) = 0
            """,
            """
            gauge(0, 0) = 0; fail(0, 0, 63, 1) = 64; gauge(1, 1) = 1; of(1, 3) = 0; rain(1, 0, 1) = NONE; working(0) = 2
            """,
            "image(0) = 1; gauge(0, 0) = 0; fail(0, 0, 63, 1) = 64; restore(0) = 1; gauge(0, 0) = 0; of(0, 3) = 0");

        edges.add("Part 1", "there is a READING of it, 0 to 9999, or none (at first none).",
            """
            gauge(0, 0) = 0; of(0, 4) = 0; reading(0, 0) = NONE; reading(0, 63) = NONE
            rain(0, 0, 0) = NONE; reading(0, 0) = 0; rain(0, 0, 9999) = 0; reading(0, 0) = 9999
            rain(0, 0, 10000) = OUTSIDE; rain(0, 0, -1) = OUTSIDE; reading(0, 0) = 9999
            """,
            "image(0) = 1; gauge(0, 0) = 0; rain(0, 5, 7) = NONE; restore(0) = 1; gauge(0, 0) = 0; reading(0, 5) = NONE; of(0, 4) = 0");

        edges.add("Part 1", "WORKING on a DAY are all GAUGES that are not OUT on it, and of which there is a READING.",
            """
            gauge(0, 0) = 0; gauge(1, 0) = 1; gauge(2, 0) = 2; gauge(3, 0) = 3; working(9) = 0
            rain(0, 9, 0) = NONE; rain(1, 9, 5) = NONE; fail(1, 9, 9, 1) = 1; fail(2, 9, 9, 1) = 1; working(9) = 1
            fail(1, 9, 9, 0) = 0; working(9) = 3; fail(2, 9, 9, 0) = 0; working(9) = 3; rain(3, 9, 9999) = NONE; working(9) = 11
            rain(0, 9, NONE) = 0; working(9) = 10; working(8) = 0; working(10) = 0
            """);
    }

    private static void whoHas(Edges edges) {
        edges.add("Part 2", "the square of how far x is apart, and that of how far y is, added.",
            Scenes.NO_PLOT + """
            row(0, 0, 0) = 1; gauge(0, 0) = 0; rain(0, 0, 1) = NONE; cell(0, 0, 3) = 0; move(0, 0, 3) = 9; cell(0, 0, 3) = 9
            move(0, 2, 0) = 13; cell(0, 0, 3) = 4; move(0, 35, 35) = 2314; cell(0, 0, 3) = 2450
            move(0, -20, -20) = 6050; cell(0, 0, 3) = 800; move(0, -20, 35) = 3025; cell(0, 0, 3) = 1625
            row(0, 1, 0) = 0; row(15, 15, 15) = 1; cell(0, 0, 3) = 1625; move(0, -20, -20) = 3025; cell(0, 0, 3) = 2450
            """);

        edges.add("Part 2", "the one for which FAR, less its REACH, is least",
            ONE_PLOT + """
            owner(0, 8, 8) = 1; reach(0, 2) = 1000; owner(0, 8, 8) = 1; reach(0, 4) = 1002; owner(0, 8, 8) = 0
            reach(1, 2) = 1000; owner(0, 8, 8) = 1  # below 0 is less than 0
            reach(0, 400) = 1004; owner(0, 8, 8) = 0; reach(1, 400) = 1002; owner(0, 8, 8) = 1; reach(1, 398) = 1400; owner(0, 8, 8) = 1
            reach(0, -400) = 1400; reach(1, -400) = 1398; owner(0, 8, 8) = 1; reach(0, -396) = 600; owner(0, 8, 8) = 0
            """,
            ONE_PLOT + """
            move(0, 35, 35) = 1354; reach(0, 400) = 1000; owner(0, 8, 8) = 1; move(1, -20, -20) = 1625; reach(1, 400) = 1000
            owner(0, 8, 8) = 0; reach(0, 290) = 1400; owner(0, 8, 8) = 0; reach(0, 289) = 1290; owner(0, 8, 8) = 1
            """);

        edges.add("Part 2", "(of as little the least GAUGE) HAS the PLOT.",
            ONE_PLOT + """
            reach(0, 3) = 1000; owner(0, 8, 8) = 0; cell(0, 0, 0) = 1; cell(0, 1, 0) = 0; spread(0) = 4; mean(0, 0) = 1
            fail(0, 0, 0, 1) = 1; owner(0, 8, 8) = 1; gauge(8, 9) = 2; rain(2, 0, 3) = NONE; owner(0, 8, 8) = 1
            fail(1, 0, 0, 1) = 1; owner(0, 8, 8) = 2; fail(1, 0, 0, 0) = 0; fail(0, 0, 0, 0) = 0; owner(0, 8, 8) = 0
            """,
            Scenes.EIGHT + """
            owner(63, 1, 0) = 0; owner(63, 3, 7) = 1; owner(63, 13, 15) = 6; fail(0, 63, 63, 1) = 1; owner(63, 1, 0) = 1
            """);

        edges.add("Part 2", "(none, if it is not of the set)",
            Scenes.HALVES + """
            fail(0, 0, 0, 1) = 1; cell(0, 0, 0) = 0; cell(0, 0, 1) = 0; cell(0, 0, 2) = 1; cell(0, 0, 3) = 0; cell(0, 1, 0) = 256
            border(0, 0, 0) = 0; border(0, 0, 1) = 0; border(0, 1, 0) = 0; border(0, 1, 1) = 64; neighbours(0, 0) = 0; neighbours(0, 1) = 0
            rain(1, 0, NONE) = 21; cell(0, 1, 0) = 0; cell(0, 1, 3) = 0; border(0, 1, 1) = 0; neighbours(0, 1) = 0
            """);

        edges.add("Part 2", "The CELL of a GAUGE on a DAY is that by the set that is WORKING then.",
            Scenes.HALVES + """
            rain(0, 1, 5) = NONE; rain(1, 2, 5) = NONE; cell(0, 0, 0) = 128; cell(1, 0, 0) = 256; cell(2, 0, 0) = 0; cell(3, 0, 0) = 0
            cell(0, 1, 0) = 128; cell(1, 1, 0) = 0; cell(2, 1, 0) = 256; cell(3, 1, 0) = 0; cell(0, 0, 0) = 128
            """);
    }

    private static void weightsAndMeans(Edges edges) {
        edges.add("Part 2", "by how many the CATCHMENT has (0, if that has none).",
            Scenes.HALVES + Scenes.NO_PLOT + """
            cell(0, 0, 0) = 0; cell(0, 0, 1) = 0; cell(0, 0, 2) = 1; cell(0, 0, 3) = 0; cell(1, 0, 1) = 0; cell(1, 0, 2) = 1
            row(0, 0, 0) = 1; cell(0, 0, 1) = 1; cell(0, 0, 2) = 1; cell(0, 1, 1) = 0; cell(0, 1, 2) = 1
            """);

        edges.add("Terms", "weights always add up to one.",
            Scenes.THREE_IN_ROW_0 + """
            cell(0, 0, 1) = 1; cell(0, 0, 2) = 4; cell(0, 1, 1) = 1; cell(0, 1, 2) = 2; cell(0, 2, 1) = 1; cell(0, 2, 2) = 4
            reach(1, -400) = 1000; cell(0, 0, 1) = 1; cell(0, 0, 2) = 2; cell(0, 1, 1) = 0; cell(0, 1, 2) = 1; cell(0, 2, 1) = 1; cell(0, 2, 2) = 2
            fail(2, 0, 0, 1) = 1; cell(0, 0, 1) = 1; cell(0, 0, 2) = 1; cell(0, 1, 1) = 0; cell(0, 2, 1) = 0
            """,
            Scenes.THREE_IN_ROW_0 + """
            row(0, 0, 13) = 14; cell(0, 0, 1) = 2; cell(0, 0, 2) = 7; cell(0, 1, 1) = 4; cell(0, 1, 2) = 7; cell(0, 2, 1) = 1; cell(0, 2, 2) = 7
            reach(1, 400) = 1000; cell(0, 0, 1) = 0; cell(0, 1, 1) = 1; cell(0, 1, 2) = 1; cell(0, 2, 1) = 0
            reach(0, 400) = 1000; reach(2, 400) = 1000; cell(0, 0, 1) = 2; cell(0, 1, 1) = 4; cell(0, 2, 1) = 1; cell(0, 2, 2) = 7
            """);

        edges.add("Part 2", "there is one, if any GAUGE is WORKING and the CATCHMENT has any PLOT.",
            Scenes.NO_PLOT + """
            mean(0, 0) = STATE; gauge(3, 3) = 0; mean(0, 0) = STATE; rain(0, 0, 7) = NONE; mean(0, 0) = STATE; total(0, 63, 2) = 0
            row(15, 15, 15) = 1; mean(0, 0) = 7; mean(0, 1) = 1; total(0, 63, 2) = 1; fail(0, 0, 0, 1) = 1; mean(0, 0) = STATE
            total(0, 63, 2) = 0; fail(0, 0, 0, 0) = 0; rain(0, 0, 0) = 7; mean(0, 0) = 0; mean(0, 1) = 1; total(0, 63, 2) = 1
            """);

        edges.add("Part 2", "(no REACH is taken off).",
            Scenes.HALVES + """
            spread(0) = 24320; reach(0, 400) = 1000; spread(0) = 39680; reach(1, 400) = 1000; spread(0) = 24320; cell(0, 1, 3) = 12160
            reach(0, -400) = 1400; spread(0) = 39680; reach(1, -400) = 1400; spread(0) = 24320; cell(0, 0, 3) = 12160
            """,
            Scenes.HALVES + "fail(1, 0, 0, 1) = 1; reach(0, 400) = 1000; spread(0) = 39680; reach(0, -400) = 1400; spread(0) = 39680");
    }

    private static void touching(Edges edges) {
        edges.add("Part 2", "Two PLOTS touch, if they are one apart in x, or in y, and in the other one not at all.",
            // one apart in x, then in y
            Scenes.NO_PLOT + """
            row(4, 6, 7) = 2; gauge(6, 4) = 0; gauge(7, 4) = 1; rain(0, 0, 1) = NONE; rain(1, 0, 1) = NONE
            border(0, 0, 1) = 1; neighbours(0, 0) = 2; neighbours(0, 1) = 1; border(0, 0, 0) = 3
            row(4, 6, 6) = 1; row(5, 6, 6) = 2; move(1, 6, 5) = 2; border(0, 0, 1) = 1; neighbours(0, 0) = 2; neighbours(0, 1) = 1
            """,
            // one apart in both
            Scenes.NO_PLOT + """
            row(4, 6, 6) = 1; row(5, 7, 7) = 2; gauge(6, 4) = 0; gauge(7, 5) = 1; rain(0, 0, 1) = NONE; rain(1, 0, 1) = NONE
            border(0, 0, 1) = 0; border(0, 1, 0) = 0; neighbours(0, 0) = 0; neighbours(0, 1) = 0; border(0, 0, 0) = 4; border(0, 1, 1) = 4
            row(5, 5, 5) = 2; move(1, 5, 5) = 4; border(0, 0, 1) = 0; neighbours(0, 0) = 0; border(0, 0, 0) = 4
            """,
            // two apart in y
            Scenes.NO_PLOT + """
            row(4, 6, 6) = 1; row(6, 6, 6) = 2; gauge(6, 4) = 0; gauge(6, 6) = 1; rain(0, 0, 1) = NONE; rain(1, 0, 1) = NONE
            border(0, 0, 1) = 0; neighbours(0, 0) = 0; border(0, 0, 0) = 4; border(0, 1, 1) = 4
            """,
            // the end of a ROW, and where the next one begins
            Scenes.NO_PLOT + """
            row(0, 15, 15) = 1; row(1, 0, 0) = 2; gauge(15, 0) = 0; gauge(0, 1) = 1; rain(0, 0, 1) = NONE; rain(1, 0, 1) = NONE
            border(0, 0, 1) = 0; border(0, 1, 0) = 0; neighbours(0, 0) = 0; neighbours(0, 1) = 0; border(0, 0, 0) = 4; border(0, 1, 1) = 4
            """,
            // both ends of a ROW, the first ROW and the last
            Scenes.NO_PLOT + """
            row(0, 5, 5) = 1; row(15, 5, 5) = 2; gauge(5, 0) = 0; gauge(5, 15) = 1; rain(0, 0, 1) = NONE; rain(1, 0, 1) = NONE
            border(0, 0, 1) = 0; neighbours(0, 0) = 0; neighbours(0, 1) = 0; border(0, 0, 0) = 4; border(0, 1, 1) = 4
            """,
            Scenes.THREE_IN_ROW_0 + """
            border(0, 0, 2) = 0; neighbours(0, 0) = 2; neighbours(0, 2) = 2; border(0, 0, 0) = 9; border(0, 2, 2) = 9; border(0, 1, 1) = 16
            """);
    }

    private static void lost(Edges edges) {
        String told = "shared(0, 1, 0) = 4; shared(0, 1, 2) = 4; estimate(0, 1, 0) = 15; estimate(0, 1, 1) = 1\n";
        edges.add("Part 3", "Of a GAUGE g on a DAY, whether it is WORKING or not",
            Scenes.THREE_IN_ROW_0 + told + "fail(1, 0, 0, 1) = 1\n" + told + "rain(1, 0, NONE) = 18\n" + told
                + "fail(1, 0, 0, 0) = 0\n" + told + "working(0) = 5");

        edges.add("Part 3", "SHARED with h, another one that is WORKING: how many PLOTS of the FIELD h HAS by the set that is WORKING, without g.",
            Scenes.THREE_IN_ROW_0 + """
            shared(0, 0, 1) = 4; shared(0, 0, 2) = 0; shared(0, 2, 1) = 4; shared(0, 2, 0) = 0
            fail(1, 0, 0, 1) = 1; shared(0, 0, 2) = 8; shared(0, 2, 0) = 8; shared(0, 0, 1) = 0; shared(0, 2, 1) = 0
            """);

        edges.add("Part 3", "there is one, if any other GAUGE is WORKING, and the FIELD has any PLOT.",
            Scenes.ROW_0_ALONE + """
            row(0, 0, 0) = 1; gauge(0, 0) = 0; gauge(1, 0) = 1; estimate(0, 0, 0) = STATE; rain(0, 0, 5) = NONE; estimate(0, 0, 0) = STATE
            rain(1, 0, 8) = NONE; estimate(0, 0, 0) = 8; estimate(0, 1, 0) = NONE; rain(0, 0, NONE) = 5; estimate(0, 0, 0) = 8
            estimate(0, 1, 0) = STATE; fail(1, 0, 0, 1) = 1; estimate(0, 0, 0) = STATE; doubt(0, 0) = 0
            fail(1, 0, 0, 0) = 0; rain(0, 0, 5) = NONE; doubt(0, 2) = 1; doubt(0, 3) = 0
            row(0, 1, 0) = 0; estimate(0, 0, 0) = NONE; estimate(0, 1, 1) = NONE; doubt(0, 0) = 0
            """);
    }
}
