/** Promises 19 to 21: a gauge that is lost. */
final class EdgesOfLoss {
    private EdgesOfLoss() {
    }

    static void add(Edges edges) {
        shared(edges);
        estimate(edges);
        doubt(edges);
    }

    private static void shared(Edges edges) {
        edges.add("Promise 19", "How many PLOTS are SHARED of g with h on a DAY; 0, if h is not WORKING.",
            Scenes.THREE_IN_ROW_0 + """
            shared(0, 1, 0) = 4; shared(0, 1, 2) = 4; fail(2, 0, 0, 1) = 1; shared(0, 1, 2) = 0; shared(0, 1, 0) = 12
            fail(2, 0, 0, 0) = 0; rain(2, 0, NONE) = 20; shared(0, 1, 2) = 0; shared(0, 1, 0) = 12
            """,
            // all PLOTS, and none
            Scenes.HALVES + "reach(0, 400) = 1000; shared(0, 0, 1) = 256; shared(0, 1, 0) = 0; fail(0, 0, 0, 1) = 1; shared(0, 0, 1) = 256",
            Scenes.HALVES + Scenes.NO_PLOT + "shared(0, 0, 1) = 0; shared(0, 1, 0) = 0; shared(1, 0, 1) = STATE");
        edges.add("Promise 19", "UNKNOWN: both; OUTSIDE: the DAY, g = h; STATE: no other GAUGE than g is WORKING.",
            "shared(0, 0, 1) = UNKNOWN; gauge(0, 0) = 0; shared(0, 0, 1) = UNKNOWN; shared(0, 1, 0) = UNKNOWN; shared(0, -1, 0) = UNKNOWN; shared(0, 0, -1) = UNKNOWN",
            Scenes.HALVES + Scenes.forEach("N", "-1 64 MAX MIN", "shared(N, 0, 1) = OUTSIDE; shared(N, 1, 1) = OUTSIDE")
                + "shared(0, 0, 0) = OUTSIDE; shared(0, 1, 1) = OUTSIDE; shared(1, 0, 0) = OUTSIDE; count(4) = 0",
            // g alone, then none at all, then h alone, then a third one alone
            Scenes.THREE_IN_ROW_0 + """
            rain(0, 1, 5) = NONE; shared(1, 0, 1) = STATE; shared(1, 0, 2) = STATE; shared(2, 0, 1) = STATE
            shared(1, 1, 0) = 12; shared(1, 2, 0) = 8; shared(1, 1, 2) = 0; shared(1, 2, 1) = 0; fail(0, 1, 1, 1) = 1; shared(1, 1, 0) = STATE
            """);
    }

    private static void estimate(Edges edges) {
        edges.add("Promise 20", "The ESTIMATE of g on a DAY: the upper number (what = 0), the lower one (1)",
            Scenes.HALVES + """
            rain(1, 0, 0) = 21; estimate(0, 0, 0) = 0; estimate(0, 0, 1) = 1; rain(1, 0, 9999) = 0; estimate(0, 0, 0) = 9999; estimate(0, 0, 1) = 1
            estimate(0, 1, 0) = 10; estimate(0, 1, 1) = 1; rain(0, 63, 3) = NONE; rain(1, 63, 4) = NONE; estimate(63, 0, 0) = 4; estimate(63, 1, 0) = 3
            """,
            // as large a fraction as there is: 2 takes 127 PLOTS from 0, and 128 from 1
            Scenes.HALVES + """
            gauge(7, 0) = 2; reach(2, 400) = 1000; row(9, 1, 15) = 255; rain(0, 0, 9999) = 10; rain(1, 0, 9998) = 21
            shared(0, 2, 0) = 127; shared(0, 2, 1) = 128; estimate(0, 2, 0) = 2549617; estimate(0, 2, 1) = 255
            """);
        edges.add("Promise 20", "NONE: its FIELD has no PLOT.",
            Scenes.HALVES + "reach(1, -400) = 1000; estimate(0, 1, 0) = NONE; estimate(0, 1, 1) = NONE; estimate(0, 0, 0) = 21; fail(1, 0, 0, 1) = 1; estimate(0, 1, 0) = NONE",
            Scenes.HALVES + Scenes.NO_PLOT + "estimate(0, 0, 0) = NONE; estimate(0, 1, 1) = NONE; row(0, 0, 0) = 1; estimate(0, 0, 0) = 21; estimate(0, 1, 0) = NONE");
        edges.add("Promise 20", "UNKNOWN; OUTSIDE; STATE: no other GAUGE than g is WORKING.",
            "estimate(0, 0, 0) = UNKNOWN; gauge(0, 0) = 0; estimate(0, 1, 0) = UNKNOWN; estimate(0, -1, 0) = UNKNOWN; estimate(0, 0, 0) = STATE",
            Scenes.HALVES + Scenes.forEach("N", "-1 64 MAX MIN", "estimate(N, 0, 0) = OUTSIDE")
                + Scenes.forEach("N", "-1 2 3 MAX MIN", "estimate(0, 0, N) = OUTSIDE; estimate(1, 0, N) = OUTSIDE") + "count(4) = 0",
            Scenes.HALVES + """
            estimate(1, 0, 0) = STATE; fail(1, 0, 0, 1) = 1; estimate(0, 0, 0) = STATE; estimate(0, 0, 1) = STATE; estimate(0, 1, 0) = 10
            fail(0, 0, 0, 1) = 1; estimate(0, 1, 0) = STATE; rain(1, 0, NONE) = 21; estimate(0, 0, 0) = STATE
            """,
            // without a PLOT, and without another GAUGE: the refusal is told
            Scenes.HALVES + Scenes.NO_PLOT + "fail(1, 0, 0, 1) = 1; estimate(0, 0, 0) = STATE; estimate(0, 1, 0) = NONE");
    }

    private static void doubt(Edges edges) {
        edges.add("Promise 21", "The set of all GAUGES that are WORKING on a DAY, have an ESTIMATE",
            "doubt(0, 0) = 0; gauge(0, 0) = 0; doubt(0, 0) = 0; rain(0, 0, 9999) = NONE; doubt(0, 0) = 0; gauge(15, 0) = 1; doubt(0, 0) = 0",
            // one has no PLOT, so no ESTIMATE; one is OUT
            Scenes.HALVES + "reach(1, -400) = 1000; doubt(0, 0) = 1; reach(1, 0) = 600; doubt(0, 0) = 3; fail(0, 0, 0, 1) = 1; doubt(0, 0) = 0",
            Scenes.THREE_IN_ROW_0 + "doubt(0, 0) = 7; fail(1, 0, 0, 1) = 1; doubt(0, 0) = 5; doubt(1, 0) = 0",
            Scenes.HALVES + Scenes.NO_PLOT + "doubt(0, 0) = 0");
        edges.add("Promise 21", "whose READING is more than bar (0 to 9999) above it, or below it.",
            // as much as the bar is not more
            Scenes.HALVES + "doubt(0, 10) = 3; doubt(0, 11) = 0; rain(0, 0, 21) = 10; doubt(0, 0) = 0; rain(0, 0, 22) = 21; doubt(0, 0) = 3; doubt(0, 1) = 0",
            // an ESTIMATE of 31 by 2: above it by 5 by 2, then below it
            Scenes.THREE_IN_ROW_0 + """
            rain(2, 0, 21) = 20; doubt(0, 2) = 7; doubt(0, 3) = 1; rain(1, 0, 13) = 18; doubt(0, 2) = 7; doubt(0, 3) = 4
            rain(1, 0, 16) = 13; doubt(0, 0) = 7; doubt(0, 1) = 5
            """,
            // the least and the greatest bar
            Scenes.HALVES + "rain(0, 0, 0) = 10; rain(1, 0, 9999) = 21; doubt(0, 9998) = 3; doubt(0, 9999) = 0; doubt(0, 0) = 3; rain(1, 0, 0) = 9999; doubt(0, 0) = 0");
        edges.add("Promise 21", "OUTSIDE: both.",
            Scenes.HALVES + Scenes.forEach("N", "-1 64 MAX MIN", "doubt(N, 0) = OUTSIDE")
                + Scenes.forEach("N", "-1 10000 10001 MAX MIN", "doubt(0, N) = OUTSIDE; doubt(1, N) = OUTSIDE") + "count(4) = 0");
    }
}
