/** What "Terms" says in its part 4: which sets are LOOKED UP, KEPT, and let go. */
final class EdgesOfLookUps {
    /** Of A_SET_A_DAY: who HAS the PLOT 0 0 (15 0 for the set 2, 0 15 for the set 4) is 0, but for these. */
    private static final String ONE_TO_SIX = Scenes.A_SET_A_DAY + """
        owner(1, 0, 0) = 0; owner(2, 0, 0) = 1; owner(3, 0, 0) = 0; owner(4, 0, 0) = 2; owner(5, 0, 0) = 0; owner(6, 0, 0) = 1
        """;

    private EdgesOfLookUps() {
    }

    static void add(Edges edges) {
        sixSets(edges);
        byTheseCallsAlone(edges);
        neverTheEmptyOne(edges);
        whichSets(edges);
        twoSets(edges);
        letGo(edges);
    }

    private static void sixSets(Edges edges) {
        edges.add("Part 4", "CELLS by a set are KEPT, for 6 sets at most.",
            ONE_TO_SIX + """
            count(2) = 6; count(4) = 6; count(5) = 0; kept(0) = 1; kept(5) = 6; kept(6) = NONE
            owner(7, 0, 0) = 0; count(2) = 6; count(4) = 7; count(5) = 1; kept(5) = 7; kept(6) = NONE
            """);

        edges.add("Part 4", "When a set is LOOKED UP that is KEPT, it is FOUND",
            ONE_TO_SIX + """
            owner(1, 15, 15) = 0; count(3) = 1; count(4) = 6; count(5) = 0; kept(0) = 2; kept(4) = 6; kept(5) = 1
            owner(1, 0, 15) = 0; count(3) = 2; kept(0) = 2; kept(5) = 1; owner(4, 9, 9) = 2; count(3) = 3; count(4) = 6
            kept(0) = 2; kept(1) = 3; kept(2) = 5; kept(3) = 6; kept(4) = 1; kept(5) = 4; kept(6) = NONE
            """,
            // a set, not a DAY, is FOUND
            Scenes.HALVES + "rain(0, 1, 9) = NONE; rain(1, 1, 9) = NONE; mean(0, 0) = 31; mean(1, 0) = 9; count(3) = 1; count(4) = 1");

        edges.add("Part 4", "else its CELLS are WORKED OUT, and KEPT",
            Scenes.HALVES + """
            count(4) = 0; owner(0, 0, 0) = 0; count(3) = 0; count(4) = 1; kept(0) = 3; kept(1) = NONE
            fail(0, 0, 0, 1) = 1; owner(0, 0, 0) = 1; count(3) = 0; count(4) = 2; kept(0) = 3; kept(1) = 2; kept(2) = NONE
            """);

        edges.add("Part 4", "(if there were 6, that one goes for it which was LOOKED UP longest ago)",
            ONE_TO_SIX + """
            owner(1, 0, 0) = 0; owner(7, 0, 0) = 0; count(5) = 1
            kept(0) = 3; kept(1) = 4; kept(2) = 5; kept(3) = 6; kept(4) = 1; kept(5) = 7
            owner(2, 0, 0) = 1; count(5) = 2; count(4) = 8; count(3) = 1; count(2) = 6; kept(0) = 4; kept(4) = 7; kept(5) = 2
            owner(1, 0, 0) = 0; count(3) = 2; count(5) = 2
            """,
            // what went is not told for what came
            ONE_TO_SIX + "owner(7, 15, 0) = 1; owner(7, 0, 15) = 2; owner(1, 15, 0) = 0; owner(2, 0, 15) = 1; owner(3, 0, 15) = 0; count(5) = 4");
    }

    private static void byTheseCallsAlone(Edges edges) {
        edges.add("Part 4", "Sets are LOOKED UP by these calls alone",
            Scenes.HALVES + """
            image(0) = 1; fail(0, 5, 5, 1) = 1; rain(0, 7, 3) = NONE; of(0, 0) = 1000; of(0, 4) = 2; reading(0, 0) = 10; working(0) = 3
            next(0, 0) = 7; next(0, 1) = 10; kept(0) = NONE; kept(1) = NONE; count(0) = 2; count(2) = 0; count(3) = 0; count(4) = 0
            row(0, 0, 15) = 256; gauge(20, 20) = 2; move(2, 21, 20) = 1; reach(2, 5) = 1000; image(1) = 1; restore(1) = 1
            count(2) = 0; count(3) = 0; count(4) = 0; count(5) = 0
            """,
            // nor is what is KEPT put in another order
            Scenes.HALVES + """
            owner(0, 0, 0) = 0; fail(0, 0, 0, 1) = 1; owner(0, 0, 0) = 1; fail(0, 0, 0, 0) = 0; kept(0) = 3; kept(1) = 2
            working(0) = 3; next(0, 0) = 7; kept(0) = 3; reading(0, 0) = 10; of(0, 0) = 1000; rain(0, 0, 4) = 10; image(0) = 1
            count(2) = 2; kept(0) = 3; kept(1) = 2; count(3) = 0; count(4) = 2
            """);
    }

    private static void neverTheEmptyOne(Edges edges) {
        String nothing = "count(2) = 0; count(3) = 0; count(4) = 0; kept(0) = NONE\n";
        edges.add("Part 4", "and never the empty one",
            "owner(0, 0, 0) = NONE; mean(0, 0) = STATE; total(0, 63, 0) = 0; spread(0) = NONE; next(0, 0) = 7; doubt(0, 0) = 0\n" + nothing,
            Scenes.HALVES + """
            owner(1, 0, 0) = NONE; cell(1, 0, 0) = 0; cell(1, 0, 1) = 0; cell(1, 0, 2) = 1; cell(1, 0, 3) = 0; border(1, 0, 1) = 0
            border(1, 0, 0) = 0; neighbours(1, 0) = 0; mean(1, 0) = STATE; total(1, 63, 2) = 0; spread(1) = NONE; next(1, 0) = 7
            shared(1, 0, 1) = STATE; estimate(1, 0, 0) = STATE; doubt(1, 0) = 0
            """ + nothing,
            // the set without g is the empty one
            Scenes.HALVES + "fail(1, 0, 0, 1) = 1; shared(0, 0, 1) = STATE; estimate(0, 0, 0) = STATE; doubt(0, 0) = 0\n" + nothing);
    }

    private static void whichSets(Edges edges) {
        edges.add("Part 4", "owner(), cell(), border(), neighbours(), mean(), spread(): the set that is WORKING",
            Scenes.HALVES + """
            owner(0, 0, 0) = 0; kept(0) = 3; count(4) = 1; cell(0, 0, 0) = 128; count(3) = 1; cell(0, 0, 1) = 1; count(3) = 2
            cell(0, 0, 2) = 2; count(3) = 3; cell(0, 0, 3) = 12160; count(3) = 4; border(0, 0, 1) = 16; count(3) = 5
            border(0, 0, 0) = 32; count(3) = 6; neighbours(0, 0) = 2; count(3) = 7; mean(0, 0) = 31; count(3) = 8
            mean(0, 1) = 2; count(3) = 9; spread(0) = 24320; count(3) = 10; count(4) = 1; kept(1) = NONE
            """,
            // also for a GAUGE that is not WORKING
            Scenes.HALVES + """
            fail(1, 0, 0, 1) = 1; cell(0, 1, 0) = 0; kept(0) = 1; count(4) = 1; cell(0, 1, 1) = 0; count(3) = 1; cell(0, 1, 3) = 0; count(3) = 2
            border(0, 1, 1) = 0; count(3) = 3; border(0, 0, 1) = 0; count(3) = 4; neighbours(0, 1) = 0; count(3) = 5; count(4) = 1
            """,
            // also in a CATCHMENT without a PLOT
            Scenes.HALVES + Scenes.NO_PLOT + """
            cell(0, 0, 0) = 0; kept(0) = 3; count(4) = 1; cell(0, 0, 1) = 0; cell(0, 0, 2) = 1; border(0, 0, 1) = 0; border(0, 0, 0) = 0
            neighbours(0, 0) = 0; spread(0) = 0; count(3) = 6; mean(0, 0) = STATE; owner(0, 0, 0) = NO; count(3) = 6; count(4) = 1
            """);

        edges.add("Part 4", "total(): that of each DAY that has a MEAN, by rising DAYS",
            Scenes.A_SET_A_DAY + """
            total(2, 5, 0) = 4; count(2) = 4; count(4) = 4; count(3) = 0; kept(0) = 2; kept(1) = 3; kept(2) = 4; kept(3) = 5; kept(4) = NONE
            total(0, 2, 1) = 1; kept(0) = 3; kept(1) = 4; kept(2) = 5; kept(3) = 1; kept(4) = 2; count(3) = 1; count(4) = 5
            total(7, 7, 2) = 1; kept(5) = 7; total(8, 63, 0) = 0; count(3) = 1; count(4) = 6; count(5) = 0
            """,
            // more sets than are KEPT
            Scenes.A_SET_A_DAY + """
            total(0, 63, 0) = 7; count(4) = 7; count(5) = 1; kept(0) = 2; kept(5) = 7
            total(0, 63, 0) = 7; count(4) = 14; count(5) = 8; count(3) = 0; kept(0) = 2; kept(5) = 7
            """,
            // the same set on several DAYS
            Scenes.HALVES + """
            rain(0, 1, 1) = NONE; rain(1, 1, 1) = NONE; rain(0, 63, 1) = NONE; rain(1, 63, 1) = NONE
            total(0, 63, 2) = 3; count(4) = 1; count(3) = 2; count(2) = 1
            """,
            // no DAY has a MEAN, though GAUGES are WORKING
            Scenes.A_SET_A_DAY + Scenes.NO_PLOT + "total(0, 63, 0) = 0; total(0, 63, 2) = 0; count(2) = 0; count(4) = 0");
    }

    private static void twoSets(Edges edges) {
        edges.add("Part 4", "shared(), estimate(): first the set that is WORKING, with g, then that without g",
            Scenes.THREE_IN_ROW_0 + """
            shared(0, 1, 0) = 4; kept(0) = 7; kept(1) = 5; kept(2) = NONE; count(4) = 2; count(3) = 0
            shared(0, 0, 1) = 4; kept(0) = 5; kept(1) = 7; kept(2) = 6; count(4) = 3; count(3) = 1
            """,
            Scenes.THREE_IN_ROW_0 + """
            estimate(0, 1, 0) = 15; kept(0) = 7; kept(1) = 5; kept(2) = NONE; count(4) = 2; count(3) = 0
            estimate(0, 2, 1) = 1; kept(0) = 5; kept(1) = 7; kept(2) = 3; count(4) = 3; count(3) = 1
            """,
            // g is not WORKING: the set with it is another one than that which is WORKING
            Scenes.THREE_IN_ROW_0 + """
            fail(1, 0, 0, 1) = 1; shared(0, 1, 0) = 4; kept(0) = 7; kept(1) = 5; kept(2) = NONE; working(0) = 5
            estimate(0, 1, 0) = 15; count(3) = 2; count(4) = 2; kept(0) = 7; kept(1) = 5
            """);

        edges.add("Part 4", "(both, also where 0 or NONE is told)",
            // 0: h is not WORKING
            Scenes.THREE_IN_ROW_0 + "fail(2, 0, 0, 1) = 1; shared(0, 0, 2) = 0; kept(0) = 3; kept(1) = 2; kept(2) = NONE; count(4) = 2",
            // 0: h HAS none of the FIELD
            Scenes.THREE_IN_ROW_0 + "shared(0, 0, 2) = 0; kept(0) = 7; kept(1) = 6; kept(2) = NONE; count(4) = 2",
            // 0: the FIELD has no PLOT
            Scenes.THREE_IN_ROW_0 + "reach(1, -400) = 1000; shared(0, 1, 0) = 0; kept(0) = 7; kept(1) = 5; count(4) = 2",
            Scenes.THREE_IN_ROW_0 + """
            reach(1, -400) = 1000; estimate(0, 1, 0) = NONE; kept(0) = 7; kept(1) = 5; count(4) = 2; count(3) = 0
            estimate(0, 1, 1) = NONE; count(4) = 2; count(3) = 2
            """,
            Scenes.HALVES + Scenes.NO_PLOT + """
            shared(0, 0, 1) = 0; kept(0) = 3; kept(1) = 2; estimate(0, 1, 0) = NONE; kept(0) = 2; kept(1) = 3; kept(2) = 1; count(4) = 3
            """);

        edges.add("Part 4", "doubt(): for each g that is WORKING, rising, while others are: the same two.",
            Scenes.THREE_IN_ROW_0 + """
            doubt(0, 9999) = 0; count(4) = 4; count(3) = 2; kept(0) = 6; kept(1) = 5; kept(2) = 7; kept(3) = 3; kept(4) = NONE
            """,
            Scenes.THREE_IN_ROW_0 + """
            fail(1, 0, 0, 1) = 1; doubt(0, 0) = 5; kept(0) = 4; kept(1) = 5; kept(2) = 1; kept(3) = NONE; count(4) = 3; count(3) = 1
            """,
            // one alone is WORKING, then none
            Scenes.THREE_IN_ROW_0 + """
            fail(1, 0, 0, 1) = 1; fail(2, 0, 0, 1) = 1; doubt(0, 0) = 0; fail(0, 0, 0, 1) = 1; doubt(0, 0) = 0; count(2) = 0; count(4) = 0
            """,
            // also where there is no ESTIMATE
            Scenes.HALVES + "reach(1, -400) = 1000; doubt(0, 0) = 1; kept(0) = 2; kept(1) = 3; kept(2) = 1; count(4) = 3; count(3) = 1",
            Scenes.EIGHT + """
            doubt(63, 9999) = 0; count(4) = 9; count(3) = 7; count(5) = 3
            kept(0) = 247; kept(1) = 239; kept(2) = 223; kept(3) = 191; kept(4) = 255; kept(5) = 127; kept(6) = NONE
            """);
    }

    private static void letGo(Edges edges) {
        String gone = "count(2) = 0; kept(0) = NONE; count(5) = 0\n";
        edges.add("Part 4", "row(), gauge(), move(), reach() and restore() let all that is KEPT go when they are done",
            ONE_TO_SIX + "row(3, 2, 9) = 248\n" + gone + "owner(1, 0, 0) = 0; count(3) = 0; count(4) = 7; count(5) = 0",
            ONE_TO_SIX + "gauge(9, 9) = 3\n" + gone + "owner(1, 0, 0) = 0; count(3) = 0; count(4) = 7; count(5) = 0",
            ONE_TO_SIX + "move(0, 9, 9) = 162\n" + gone + "owner(3, 0, 0) = 0; owner(3, 15, 0) = 1; count(3) = 1; count(4) = 7",
            ONE_TO_SIX + "reach(1, 226) = 1000\n" + gone + "owner(3, 0, 0) = 1; count(3) = 0; count(4) = 7; count(5) = 0",
            "image(1) = 1\n" + ONE_TO_SIX + "image(0) = 1; count(2) = 6; restore(1) = 1\n" + gone + "restore(0) = 1; owner(1, 0, 0) = 0; count(4) = 7");

        edges.add("Part 4", "(though all may be as before)",
            ONE_TO_SIX + "row(0, 0, 15) = 256\n" + gone,
            ONE_TO_SIX + "move(0, 0, 0) = 0\n" + gone,
            ONE_TO_SIX + "reach(0, 0) = 1000\n" + gone,
            ONE_TO_SIX + "image(0) = 1; restore(0) = 1\n" + gone,
            ONE_TO_SIX + "row(3, 1, 0) = 240; owner(1, 0, 0) = 0; row(3, 15, 3) = 240\n" + gone);
    }
}
