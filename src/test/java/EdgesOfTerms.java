/** What "Terms" says of all calls: 512 of them, what is refused, sets, fractions. */
final class EdgesOfTerms {
    private EdgesOfTerms() {
    }

    static void add(Edges edges) {
        edges.add("Terms", "An object is used for at most 512 calls after it has been made",
            Scenes.HALVES + Scenes.times(507, "spread(0) = 24320") + "count(3) = 506",
            Scenes.times(255, "row(0, 1, 15) = 255; row(0, 0, 15) = 256") + "count(1) = 256; count(30) = 15");
        refused(edges);
        sets(edges);
        fractions(edges);
    }

    private static void refused(Edges edges) {
        edges.add("Terms", "UNKNOWN -1 (no such GAUGE)",
            """
            move(0, 0, 0) = -1; reach(0, 0) = -1; fail(0, 0, 0, 1) = -1; rain(0, 0, 0) = -1; of(0, 0) = -1; reading(0, 0) = -1
            cell(0, 0, 0) = -1; border(0, 0, 0) = -1; neighbours(0, 0) = -1; shared(0, 0, 1) = -1; estimate(0, 0, 0) = -1
            """,
            Scenes.HALVES + Scenes.forEach("G", "2 -1 7 8 32 33 64 256 -32 MAX MIN", """
                move(G, 1, 1) = UNKNOWN; reach(G, 1) = UNKNOWN; fail(G, 0, 0, 1) = UNKNOWN; rain(G, 0, 1) = UNKNOWN
                of(G, 0) = UNKNOWN; reading(G, 0) = UNKNOWN; cell(0, G, 0) = UNKNOWN; neighbours(0, G) = UNKNOWN
                border(0, G, 0) = UNKNOWN; border(0, 0, G) = UNKNOWN; border(0, G, G) = UNKNOWN; estimate(0, G, 0) = UNKNOWN
                shared(0, G, 0) = UNKNOWN; shared(0, 0, G) = UNKNOWN; shared(0, G, G) = UNKNOWN
                """) + "working(0) = 3; of(0, 0) = 1000; of(0, 2) = 1000; of(1, 0) = 1015; of(1, 2) = 1000; count(4) = 0",
            Scenes.EIGHT + "of(7, 0) = 1014; of(8, 0) = UNKNOWN; cell(63, 7, 0) = 32; cell(63, 8, 0) = UNKNOWN",
            """
            gauge(0, 0) = 0; image(0) = 1; gauge(1, 1) = 1; rain(1, 0, 5) = NONE; of(1, 0) = 1001; restore(0) = 1
            of(1, 0) = UNKNOWN; reading(1, 0) = UNKNOWN; move(1, 2, 2) = UNKNOWN; rain(1, 0, 6) = UNKNOWN; working(0) = 0
            gauge(2, 2) = 1; of(1, 0) = 1002; reading(1, 0) = NONE
            """);

        edges.add("Terms", "Calls that are refused answer the first of these that fits",
            Scenes.EIGHT + "gauge(36, 15) = OUTSIDE; gauge(0, -21) = OUTSIDE; gauge(14, 15) = NO; gauge(0, 0) = FULL",
            Scenes.HALVES + """
            move(2, 36, 0) = UNKNOWN; move(2, 0, 0) = UNKNOWN; move(-1, 15, 0) = UNKNOWN; reach(2, 401) = UNKNOWN
            fail(2, 64, 0, 1) = UNKNOWN; fail(2, 1, 0, 1) = UNKNOWN; fail(2, 0, 0, 2) = UNKNOWN
            rain(2, 64, 0) = UNKNOWN; rain(2, 0, -1) = UNKNOWN; of(2, 5) = UNKNOWN; reading(2, 64) = UNKNOWN
            """,
            Scenes.HALVES + """
            row(3, 1, 0) = 240; owner(64, 0, 3) = OUTSIDE; owner(-1, 0, 3) = OUTSIDE; owner(64, 0, 0) = OUTSIDE
            owner(1, 16, 3) = OUTSIDE; owner(1, 0, 3) = NO; owner(1, 0, 2) = NONE
            """,
            Scenes.HALVES + """
            cell(64, 2, 0) = UNKNOWN; cell(0, 2, 4) = UNKNOWN; neighbours(64, 2) = UNKNOWN
            border(64, 2, 0) = UNKNOWN; border(64, 0, 2) = UNKNOWN; border(-1, 2, 2) = UNKNOWN
            """,
            Scenes.HALVES + "mean(1, 2) = OUTSIDE; mean(1, -1) = OUTSIDE; mean(64, 0) = OUTSIDE; mean(1, 0) = STATE",
            Scenes.HALVES + """
            shared(64, 2, 0) = UNKNOWN; shared(64, 0, 2) = UNKNOWN; shared(0, 2, 2) = UNKNOWN; shared(1, 0, 2) = UNKNOWN
            shared(1, 2, 0) = UNKNOWN; shared(1, 0, 0) = OUTSIDE; shared(64, 0, 1) = OUTSIDE; shared(1, 0, 1) = STATE
            """,
            Scenes.HALVES + """
            estimate(64, 2, 0) = UNKNOWN; estimate(0, 2, 2) = UNKNOWN; estimate(1, 2, 0) = UNKNOWN
            estimate(1, 0, 2) = OUTSIDE; estimate(64, 0, 0) = OUTSIDE; estimate(1, 0, 0) = STATE
            """,
            "restore(2) = OUTSIDE; restore(-1) = OUTSIDE; restore(0) = STATE; restore(1) = STATE");

        edges.add("Terms", "What is refused changes nothing",
            Scenes.HALVES + """
            image(1) = 1; reach(0, 3) = 1000; fail(0, 5, 6, 1) = 2
            row(16, 0, 0) = OUTSIDE; row(0, 0, 16) = OUTSIDE; row(0, 16, 15) = OUTSIDE; gauge(36, 0) = OUTSIDE; gauge(0, 0) = NO
            move(0, 36, 5) = OUTSIDE; move(0, 5, 36) = OUTSIDE; move(0, 15, 0) = NO; move(2, 3, 3) = UNKNOWN
            reach(0, 401) = OUTSIDE; reach(1, -401) = OUTSIDE; reach(2, 1) = UNKNOWN
            fail(0, 0, 64, 1) = OUTSIDE; fail(0, 1, 0, 1) = OUTSIDE; fail(0, 5, 5, 2) = OUTSIDE; fail(0, -1, 63, 0) = OUTSIDE
            rain(0, 0, 10000) = OUTSIDE; rain(0, 0, -1) = OUTSIDE; rain(0, 64, 5) = OUTSIDE; rain(2, 0, 5) = UNKNOWN
            image(2) = OUTSIDE; image(-1) = OUTSIDE; restore(0) = STATE; restore(2) = OUTSIDE
            count(0) = 2; count(1) = 256; count(6) = 2; count(10) = 0; count(30) = 15
            of(0, 0) = 1000; of(0, 1) = 1000; of(0, 2) = 1003; of(0, 3) = 2; of(0, 4) = 1; reading(0, 0) = 10
            of(1, 0) = 1015; of(1, 1) = 1000; of(1, 2) = 1000; of(1, 3) = 0; of(1, 4) = 1; reading(1, 0) = 21
            restore(1) = 1; of(0, 2) = 1000; of(0, 3) = 0; count(0) = 2
            """,
            Scenes.EIGHT + "gauge(1, 1) = FULL; count(0) = 8; gauge(1, 1) = FULL; of(7, 0) = 1014; of(7, 1) = 1015; of(0, 0) = 1000",
            Scenes.HALVES + """
            spread(0) = 24320; row(0, 0, 16) = OUTSIDE; gauge(15, 0) = NO; gauge(0, 36) = OUTSIDE; move(1, 0, 0) = NO
            move(1, 36, 0) = OUTSIDE; move(2, 1, 1) = UNKNOWN; reach(0, 401) = OUTSIDE; reach(2, 0) = UNKNOWN
            restore(0) = STATE; restore(2) = OUTSIDE; kept(0) = 3; count(2) = 1
            """);

        edges.add("Terms", "and LOOKS nothing UP.",
            Scenes.HALVES + """
            rain(0, 1, 4) = NONE; row(3, 1, 0) = 240; owner(0, 0, 0) = 0; owner(1, 0, 0) = 0; kept(0) = 3; kept(1) = 1
            owner(64, 0, 0) = OUTSIDE; owner(0, 0, 16) = OUTSIDE; owner(0, 0, 3) = NO
            cell(0, 2, 0) = UNKNOWN; cell(64, 0, 0) = OUTSIDE; cell(0, 0, 4) = OUTSIDE
            border(0, 2, 0) = UNKNOWN; border(0, 0, 2) = UNKNOWN; border(64, 0, 1) = OUTSIDE
            neighbours(0, 2) = UNKNOWN; neighbours(64, 0) = OUTSIDE; mean(0, 2) = OUTSIDE; mean(64, 0) = OUTSIDE; mean(2, 0) = STATE
            total(0, 0, 3) = OUTSIDE; total(0, 64, 0) = OUTSIDE; total(1, 0, 0) = OUTSIDE; spread(64) = OUTSIDE
            shared(0, 2, 0) = UNKNOWN; shared(0, 0, 2) = UNKNOWN; shared(0, 0, 0) = OUTSIDE; shared(1, 0, 1) = STATE
            estimate(0, 2, 0) = UNKNOWN; estimate(0, 0, 2) = OUTSIDE; estimate(1, 0, 0) = STATE
            doubt(0, -1) = OUTSIDE; doubt(0, 10000) = OUTSIDE; doubt(64, 0) = OUTSIDE
            kept(0) = 3; kept(1) = 1; kept(2) = NONE; count(3) = 0; count(4) = 2; count(5) = 0
            """,
            Scenes.HALVES + Scenes.NO_PLOT + """
            mean(0, 0) = STATE; mean(0, 1) = STATE; owner(0, 0, 0) = NO; count(2) = 0; count(3) = 0; count(4) = 0
            """);
    }

    private static void sets(Edges edges) {
        edges.add("Terms", "bit g (of the value 1 shifted left by g) tells whether GAUGE g is in it.",
            Scenes.EIGHT + """
            working(62) = 0; working(63) = 255; fail(0, 63, 63, 1) = 1; working(63) = 254; fail(7, 63, 63, 1) = 1; working(63) = 126
            owner(63, 0, 0) = 1; kept(0) = 126; neighbours(63, 1) = 4; neighbours(63, 6) = 32
            """,
            Scenes.EIGHT + """
            fail(0, 63, 63, 1) = 1; fail(1, 63, 63, 1) = 1; fail(2, 63, 63, 1) = 1; fail(3, 63, 63, 1) = 1; fail(4, 63, 63, 1) = 1
            fail(5, 63, 63, 1) = 1; working(63) = 192; doubt(63, 0) = 192; neighbours(63, 6) = 128; neighbours(63, 7) = 64
            kept(0) = 128; kept(1) = 64; kept(2) = 192; fail(6, 63, 63, 1) = 1; working(63) = 128; doubt(63, 0) = 0
            """);
    }

    private static void fractions(Edges edges) {
        edges.add("Terms", "Fractions are told in lowest terms, the lower number above 0; 0 is 0 by 1.",
            Scenes.HALVES + """
            cell(0, 0, 1) = 1; cell(0, 0, 2) = 2; row(0, 0, 13) = 254; cell(0, 0, 1) = 64; cell(0, 0, 2) = 127
            cell(0, 1, 1) = 63; cell(0, 1, 2) = 127; reach(0, 400) = 1000; cell(0, 0, 1) = 1; cell(0, 0, 2) = 1
            cell(0, 1, 1) = 0; cell(0, 1, 2) = 1; cell(1, 0, 1) = 0; cell(1, 0, 2) = 1
            """,
            Scenes.HALVES + """
            mean(0, 0) = 31; mean(0, 1) = 2; rain(0, 0, 11) = 10; mean(0, 0) = 16; mean(0, 1) = 1
            rain(0, 0, 0) = 11; rain(1, 0, 0) = 21; mean(0, 0) = 0; mean(0, 1) = 1
            """,
            Scenes.HALVES + """
            total(1, 63, 0) = 0; total(1, 63, 1) = 1; rain(0, 9, 10) = NONE; rain(1, 9, 21) = NONE
            total(0, 0, 0) = 31; total(0, 0, 1) = 2; total(0, 9, 0) = 31; total(0, 9, 1) = 1
            rain(0, 9, 0) = 10; rain(1, 9, 0) = 21; total(9, 9, 0) = 0; total(9, 9, 1) = 1
            """,
            Scenes.THREE_IN_ROW_0 + """
            estimate(0, 1, 0) = 15; estimate(0, 1, 1) = 1; rain(2, 0, 21) = 20; estimate(0, 1, 0) = 31; estimate(0, 1, 1) = 2
            rain(0, 0, 0) = 10; rain(2, 0, 0) = 21; estimate(0, 1, 0) = 0; estimate(0, 1, 1) = 1
            """);
    }
}
