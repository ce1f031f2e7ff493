/**
 * Each promise by itself: ordinary inputs, the edges that the document names, wrong inputs. The
 * answers were worked out by hand from the document.
 */
public final class PromisesTest {
    private static final String ROW_0_ALONE = Scenes.ROW_0_ALONE;
    private static final String NO_PLOT = Scenes.NO_PLOT;
    private static final String HALVES = Scenes.HALVES;
    private static final String THREE_IN_ROW_0 = Scenes.THREE_IN_ROW_0;
    private static final String EIGHT = Scenes.EIGHT;

    private PromisesTest() {
    }

    public static void main(String[] args) {
        Check check = new Check();
        constants(check);
        whatThereIs(check);
        daysOfGauges(check);
        cells(check);
        means(check);
        spreads(check);
        lostGauges(check);
        whatIsKept(check);
        lookingUp(check);
        eightGauges(check);
        extremes(check);
        check.end("PromisesTest");
    }

    private static void constants(Check check) {
        check.part("the constants");
        check.due("UNKNOWN", RainCells.UNKNOWN, -1);
        check.due("OUTSIDE", RainCells.OUTSIDE, -2);
        check.due("STATE", RainCells.STATE, -3);
        check.due("FULL", RainCells.FULL, -4);
        check.due("NO", RainCells.NO, -5);
        check.due("NONE", RainCells.NONE, -6);
    }

    private static void whatThereIs(Check check) {
        Script.run(check, "Promise 1: a new object", """
            count(0) = 0; count(1) = 256; count(2) = 0; count(3) = 0; count(4) = 0; count(5) = 0; count(6) = 0
            count(10) = 0; count(17) = 0; count(25) = 0; count(30) = 15; count(37) = 15; count(45) = 15
            kept(0) = NONE; restore(0) = STATE; restore(1) = STATE
            of(0, 0) = UNKNOWN; reading(0, 0) = UNKNOWN; working(0) = 0; working(63) = 0
            spread(0) = NONE; owner(0, 0, 0) = NONE; mean(0, 0) = STATE; doubt(0, 0) = 0
            total(0, 63, 0) = 0; total(0, 63, 1) = 1; total(0, 63, 2) = 0
            """);

        Script.run(check, "Promise 2: row", """
            row(3, 5, 9) = 245; count(13) = 5; count(33) = 9; count(1) = 245; count(12) = 0; count(34) = 15
            row(3, 5, 5) = 241; row(3, 6, 5) = 240; count(13) = NONE; count(33) = NONE
            row(3, 15, 0) = 240; row(3, 0, 0) = 241; row(3, 15, 15) = 241; row(3, 0, 15) = 256
            row(0, 1, 15) = 255; row(15, 0, 14) = 254; count(10) = 1; count(45) = 14
            row(-1, 0, 15) = OUTSIDE; row(16, 0, 15) = OUTSIDE; row(0, -1, 15) = OUTSIDE; row(0, 16, 15) = OUTSIDE
            row(0, 0, -1) = OUTSIDE; row(0, 0, 16) = OUTSIDE; row(0, 16, 0) = OUTSIDE; row(0, 15, -1) = OUTSIDE
            count(1) = 254
            """);

        Script.run(check, "Promise 3: gauge", """
            gauge(-20, -20) = 0; gauge(35, 35) = 1; gauge(-20, 35) = 2; gauge(35, -20) = 3; gauge(0, 0) = 4
            gauge(-21, 0) = OUTSIDE; gauge(0, -21) = OUTSIDE; gauge(36, 0) = OUTSIDE; gauge(0, 36) = OUTSIDE
            gauge(0, 0) = NO; gauge(35, 35) = NO; count(0) = 5
            gauge(0, 1) = 5; gauge(1, 0) = 6; gauge(1, 1) = 7; count(0) = 8
            gauge(2, 2) = FULL; gauge(1, 1) = NO; gauge(36, 2) = OUTSIDE; count(0) = 8
            of(7, 0) = 1001; of(7, 1) = 1001; of(7, 2) = 1000; of(7, 3) = 0; of(7, 4) = 0; reading(7, 0) = NONE
            of(8, 0) = UNKNOWN
            """);

        Script.run(check, "Promise 4: move", """
            gauge(3, 4) = 0; gauge(5, 5) = 1
            move(0, 6, 8) = 25; of(0, 0) = 1006; of(0, 1) = 1008; of(1, 0) = 1005
            move(0, 6, 8) = 0; move(0, 6, 7) = 1; move(0, 8, 7) = 4
            move(0, 5, 5) = NO; of(0, 0) = 1008; move(1, 5, 5) = 0
            move(0, 3, 4) = 34; move(1, 8, 7) = 13; gauge(5, 5) = 2  # where one was is free again
            move(0, -20, -20) = 1105; move(0, 35, 35) = 6050; move(0, -20, 35) = 3025
            move(0, 36, 0) = OUTSIDE; move(0, -21, 0) = OUTSIDE; move(0, 0, 36) = OUTSIDE; move(0, 0, -21) = OUTSIDE
            move(3, 0, 0) = UNKNOWN; move(-1, 0, 0) = UNKNOWN; move(3, 36, 0) = UNKNOWN; move(8, 5, 5) = UNKNOWN
            of(0, 0) = 980; of(0, 1) = 1035
            """);
        Script.run(check, "Promise 4: the rest stays", """
            gauge(3, 4) = 0; reach(0, 7) = 1000; fail(0, 2, 3, 1) = 2; rain(0, 2, 5) = NONE; move(0, 9, 9) = 61
            of(0, 2) = 1007; of(0, 3) = 2; of(0, 4) = 1; reading(0, 2) = 5
            """);

        Script.run(check, "Promise 5: reach", """
            gauge(3, 4) = 0; gauge(5, 5) = 1
            reach(0, 5) = 1000; reach(0, 5) = 1005; reach(0, -400) = 1005; reach(0, 400) = 600; reach(0, 0) = 1400
            reach(1, 1) = 1000; of(0, 2) = 1000; of(1, 2) = 1001
            reach(0, 401) = OUTSIDE; reach(0, -401) = OUTSIDE; reach(2, 0) = UNKNOWN; reach(-1, 0) = UNKNOWN
            reach(2, 401) = UNKNOWN; of(0, 2) = 1000
            """);
    }

    private static void daysOfGauges(Check check) {
        Script.run(check, "Promise 6: fail", """
            gauge(3, 4) = 0; gauge(5, 5) = 1
            fail(0, 3, 7, 1) = 5; fail(0, 5, 9, 1) = 7; fail(0, 4, 4, 0) = 6; fail(0, 4, 4, 0) = 6; fail(1, 0, 0, 1) = 1
            of(0, 3) = 6; of(1, 3) = 1; fail(0, 31, 32, 1) = 8; fail(0, 63, 63, 1) = 9
            fail(0, 0, 63, 1) = 64; fail(0, 1, 62, 0) = 2; fail(0, 0, 63, 0) = 0
            fail(0, 2, 1, 1) = OUTSIDE; fail(0, -1, 1, 1) = OUTSIDE; fail(0, 0, 64, 1) = OUTSIDE
            fail(0, 64, 64, 1) = OUTSIDE; fail(0, -1, -1, 1) = OUTSIDE
            fail(0, 0, 1, 2) = OUTSIDE; fail(0, 0, 1, -1) = OUTSIDE
            fail(2, 0, 1, 1) = UNKNOWN; fail(-1, 0, 1, 1) = UNKNOWN; fail(2, 2, 1, 3) = UNKNOWN
            of(0, 3) = 0
            """);

        Script.run(check, "Promise 7: rain", """
            gauge(3, 4) = 0; gauge(5, 5) = 1
            rain(0, 0, 0) = NONE; rain(0, 0, 9999) = 0; rain(0, 0, NONE) = 9999; rain(0, 0, NONE) = NONE
            rain(0, 63, 7) = NONE; rain(1, 63, 8) = NONE; reading(0, 63) = 7; reading(1, 63) = 8; reading(0, 62) = NONE
            rain(0, 64, 1) = OUTSIDE; rain(0, -1, 1) = OUTSIDE; rain(0, 64, NONE) = OUTSIDE
            rain(0, 63, 10000) = OUTSIDE; rain(0, 63, -1) = OUTSIDE; rain(0, 63, -5) = OUTSIDE; rain(0, 63, -7) = OUTSIDE
            rain(2, 0, 1) = UNKNOWN; rain(-1, 0, 1) = UNKNOWN; rain(2, 64, 10000) = UNKNOWN
            reading(0, 63) = 7; fail(0, 63, 63, 1) = 1; rain(0, 63, 9) = 7; reading(0, 63) = 9
            """);

        Script.run(check, "Promise 8: of", """
            gauge(-20, 35) = 0; gauge(5, 6) = 1
            of(0, 0) = 980; of(0, 1) = 1035; of(0, 2) = 1000; of(0, 3) = 0; of(0, 4) = 0
            reach(0, -400) = 1000; of(0, 2) = 600; of(1, 0) = 1005; of(1, 1) = 1006
            fail(0, 0, 9, 1) = 10; of(0, 3) = 10; of(1, 3) = 0
            rain(0, 0, 0) = NONE; rain(0, 63, 5) = NONE; rain(0, 63, 6) = 5; of(0, 4) = 2; rain(0, 0, NONE) = 0; of(0, 4) = 1
            of(0, -1) = OUTSIDE; of(0, 5) = OUTSIDE; of(2, 0) = UNKNOWN; of(-1, 0) = UNKNOWN; of(2, 5) = UNKNOWN
            """);

        Script.run(check, "Promise 9: reading", """
            gauge(3, 4) = 0; reading(0, 5) = NONE; rain(0, 5, 44) = NONE; reading(0, 5) = 44
            fail(0, 5, 5, 1) = 1; reading(0, 5) = 44; reading(0, 4) = NONE; reading(0, 6) = NONE
            reading(0, -1) = OUTSIDE; reading(0, 64) = OUTSIDE; reading(1, 0) = UNKNOWN; reading(-1, 0) = UNKNOWN
            reading(1, 64) = UNKNOWN
            """);

        Script.run(check, "Promise 10: working", """
            gauge(3, 4) = 0; gauge(5, 5) = 1; gauge(6, 6) = 2; working(5) = 0
            rain(0, 5, 0) = NONE; working(5) = 1; rain(2, 5, 3) = NONE; working(5) = 5; rain(1, 5, 3) = NONE; working(5) = 7
            fail(0, 5, 5, 1) = 1; working(5) = 6; fail(0, 4, 4, 1) = 2; fail(0, 5, 5, 0) = 1; working(5) = 7
            rain(1, 5, NONE) = 3; working(5) = 5; working(4) = 0; working(6) = 0
            working(-1) = OUTSIDE; working(64) = OUTSIDE; rain(1, 63, 1) = NONE; working(63) = 2
            fail(1, 63, 63, 1) = 1; working(63) = 0; working(31) = 0
            """);
        Script.run(check, "Promise 10: all of them", """
            gauge(0, 0) = 0; gauge(1, 0) = 1; gauge(2, 0) = 2; gauge(3, 0) = 3
            gauge(4, 0) = 4; gauge(5, 0) = 5; gauge(6, 0) = 6; gauge(7, 0) = 7
            rain(0, 0, 1) = NONE; rain(1, 0, 1) = NONE; rain(2, 0, 1) = NONE; rain(3, 0, 1) = NONE
            rain(4, 0, 1) = NONE; rain(5, 0, 1) = NONE; rain(6, 0, 1) = NONE; rain(7, 0, 1) = NONE; working(0) = 255
            """);
    }

    private static void cells(Check check) {
        Script.run(check, "Promise 11: owner", HALVES + """
            owner(0, 0, 0) = 0; owner(0, 7, 15) = 0; owner(0, 8, 0) = 1; owner(0, 15, 15) = 1
            move(1, 14, 0) = 1; owner(0, 7, 3) = 0  # as FAR from both: the least
            reach(1, 1) = 1000; owner(0, 7, 3) = 1; owner(0, 6, 3) = 0
            reach(0, 1) = 1000; owner(0, 7, 3) = 0
            row(3, 0, 6) = 247; owner(0, 7, 3) = NO; owner(0, 6, 3) = 0; owner(1, 7, 3) = NO; owner(1, 6, 3) = NONE
            owner(64, 7, 3) = OUTSIDE; owner(-1, 0, 0) = OUTSIDE; owner(0, 16, 0) = OUTSIDE; owner(0, -1, 0) = OUTSIDE
            owner(0, 0, 16) = OUTSIDE; owner(0, 0, -1) = OUTSIDE
            fail(0, 0, 0, 1) = 1; owner(0, 0, 0) = 1; fail(1, 0, 0, 1) = 1; owner(0, 0, 0) = NONE
            """);

        Script.run(check, "Promise 11: one above the other", """
            gauge(5, 0) = 0; gauge(5, 15) = 1; rain(0, 0, 1) = NONE; rain(1, 0, 1) = NONE
            owner(0, 0, 15) = 1; owner(0, 15, 0) = 0; owner(0, 15, 7) = 0; owner(0, 0, 8) = 1
            border(0, 0, 1) = 16; border(0, 1, 0) = 16; border(0, 0, 0) = 32; neighbours(0, 0) = 2; neighbours(0, 1) = 1
            """);

        Script.run(check, "Promise 12: cell", HALVES + """
            cell(0, 0, 0) = 128; cell(0, 0, 1) = 1; cell(0, 0, 2) = 2; cell(0, 0, 3) = 12160
            cell(0, 1, 0) = 128; cell(0, 1, 3) = 12160
            reach(0, 400) = 1000; cell(0, 0, 0) = 256; cell(0, 0, 1) = 1; cell(0, 0, 2) = 1; cell(0, 0, 3) = 39680
            cell(0, 1, 0) = 0; cell(0, 1, 1) = 0; cell(0, 1, 2) = 1; cell(0, 1, 3) = 0
            reach(0, 0) = 1400; row(0, 0, 13) = 254; cell(0, 0, 1) = 64; cell(0, 0, 2) = 127; cell(0, 1, 1) = 63
            fail(1, 0, 0, 1) = 1; cell(0, 1, 0) = 0; cell(0, 1, 1) = 0; cell(0, 1, 2) = 1; cell(0, 0, 0) = 254
            cell(1, 0, 0) = 0; cell(1, 0, 1) = 0; cell(1, 0, 2) = 1; cell(1, 0, 3) = 0
            cell(0, 2, 0) = UNKNOWN; cell(0, -1, 0) = UNKNOWN; cell(64, 2, 4) = UNKNOWN
            cell(64, 0, 0) = OUTSIDE; cell(-1, 0, 0) = OUTSIDE; cell(0, 0, 4) = OUTSIDE; cell(0, 0, -1) = OUTSIDE
            """);
        Script.run(check, "Promise 12: no PLOT", HALVES + NO_PLOT + """
            cell(0, 0, 0) = 0; cell(0, 0, 1) = 0; cell(0, 0, 2) = 1; cell(0, 0, 3) = 0; count(4) = 1; count(3) = 3
            """);

        Script.run(check, "Promise 13: border", HALVES + """
            border(0, 0, 1) = 16; border(0, 1, 0) = 16; border(0, 0, 0) = 32; border(0, 1, 1) = 32
            row(7, 1, 0) = 240; border(0, 0, 1) = 15; border(0, 0, 0) = 47; border(0, 1, 1) = 47
            row(7, 5, 5) = 241; border(0, 0, 0) = 47; border(0, 0, 1) = 15; border(0, 1, 1) = 47
            row(7, 9, 9) = 241; border(0, 0, 0) = 47; border(0, 1, 1) = 47
            border(1, 0, 1) = 0; border(1, 0, 0) = 0; fail(1, 0, 0, 1) = 1; border(0, 0, 1) = 0; border(0, 1, 1) = 0
            border(0, 2, 0) = UNKNOWN; border(0, 0, 2) = UNKNOWN; border(0, -1, 0) = UNKNOWN; border(0, 0, -1) = UNKNOWN
            border(64, 0, 2) = UNKNOWN; border(64, 0, 0) = OUTSIDE; border(-1, 0, 1) = OUTSIDE
            """);
        Script.run(check, "Promise 13: one PLOT", NO_PLOT + """
            gauge(30, 30) = 0; rain(0, 0, 1) = NONE; border(0, 0, 0) = 0
            row(8, 8, 8) = 1; border(0, 0, 0) = 4; row(8, 8, 9) = 2; border(0, 0, 0) = 6; row(9, 9, 9) = 3; border(0, 0, 0) = 8
            """);

        Script.run(check, "Promise 14: neighbours", """
            gauge(3, 3) = 0; gauge(12, 3) = 1; gauge(3, 12) = 2; gauge(12, 12) = 3
            neighbours(0, 0) = 0
            rain(0, 0, 1) = NONE; neighbours(0, 0) = 0; rain(1, 0, 1) = NONE; rain(2, 0, 1) = NONE; rain(3, 0, 1) = NONE
            neighbours(0, 0) = 6; neighbours(0, 1) = 9; neighbours(0, 2) = 9; neighbours(0, 3) = 6
            row(8, 1, 0) = 240; neighbours(0, 0) = 2; neighbours(0, 3) = 4
            row(8, 8, 8) = 241; neighbours(0, 0) = 2; neighbours(0, 1) = 9
            fail(1, 0, 0, 1) = 1; neighbours(0, 1) = 0; neighbours(0, 0) = 8; neighbours(0, 3) = 5
            neighbours(0, 4) = UNKNOWN; neighbours(0, -1) = UNKNOWN; neighbours(64, 4) = UNKNOWN
            neighbours(64, 0) = OUTSIDE; neighbours(-1, 0) = OUTSIDE
            """);
        Script.run(check, "Promise 14: CELLS of one PLOT", ROW_0_ALONE + """
            gauge(0, 0) = 0; gauge(1, 0) = 1; gauge(2, 0) = 2; row(0, 0, 2) = 3
            rain(0, 0, 1) = NONE; rain(1, 0, 1) = NONE; rain(2, 0, 1) = NONE
            neighbours(0, 0) = 2; neighbours(0, 1) = 5; neighbours(0, 2) = 2; border(0, 1, 1) = 2; border(0, 0, 0) = 3
            row(0, 1, 0) = 0; row(13, 15, 15) = 1; row(14, 15, 15) = 2; row(15, 15, 15) = 3
            move(0, 15, 13) = 394; move(1, 15, 14) = 392; move(2, 15, 15) = 394
            neighbours(0, 0) = 2; neighbours(0, 1) = 5; neighbours(0, 2) = 2; border(0, 1, 1) = 2; border(0, 2, 2) = 3
            """);
    }

    private static void means(Check check) {
        Script.run(check, "Promise 15: mean", HALVES + """
            mean(0, 0) = 31; mean(0, 1) = 2; rain(0, 0, 9) = 10; mean(0, 0) = 15; mean(0, 1) = 1
            rain(0, 0, 0) = 9; mean(0, 0) = 21; mean(0, 1) = 2; rain(1, 0, 0) = 21; mean(0, 0) = 0; mean(0, 1) = 1
            rain(0, 0, 9999) = 0; rain(1, 0, 9999) = 0; mean(0, 0) = 9999; mean(0, 1) = 1
            rain(0, 0, 9998) = 9999; row(0, 8, 15) = 248; mean(0, 0) = 309954; mean(0, 1) = 31
            mean(1, 0) = STATE; mean(1, 1) = STATE; mean(1, 2) = OUTSIDE
            mean(64, 0) = OUTSIDE; mean(-1, 0) = OUTSIDE; mean(0, 2) = OUTSIDE; mean(0, -1) = OUTSIDE
            fail(0, 0, 0, 1) = 1; mean(0, 0) = 9999; fail(1, 0, 0, 1) = 1; mean(0, 0) = STATE
            """);
        Script.run(check, "Promise 15: no PLOT", HALVES + NO_PLOT + """
            mean(0, 0) = STATE; mean(0, 1) = STATE; count(4) = 0; working(0) = 3
            """);

        Script.run(check, "Promise 15: one PLOT, three", ROW_0_ALONE + """
            row(0, 0, 0) = 1; gauge(0, 0) = 0; gauge(2, 0) = 1; rain(0, 0, 7) = NONE; rain(1, 0, 9) = NONE
            mean(0, 0) = 7; mean(0, 1) = 1; row(0, 0, 2) = 3; mean(0, 0) = 23; mean(0, 1) = 3; cell(0, 0, 1) = 2; cell(0, 0, 2) = 3
            rain(0, 0, 0) = 7; rain(1, 0, 1) = 9; mean(0, 0) = 1; mean(0, 1) = 3; cell(0, 1, 1) = 1; cell(0, 1, 2) = 3
            """);

        Script.run(check, "Promise 16: total", HALVES + """
            rain(0, 1, 4) = NONE; rain(1, 3, 5) = NONE; rain(0, 63, 1) = NONE; rain(1, 63, 0) = NONE
            total(0, 0, 0) = 31; total(0, 0, 1) = 2; total(0, 0, 2) = 1
            total(0, 1, 0) = 39; total(0, 1, 1) = 2; total(0, 1, 2) = 2
            total(1, 3, 0) = 9; total(1, 3, 1) = 1; total(1, 3, 2) = 2; total(2, 2, 0) = 0; total(2, 2, 1) = 1; total(2, 2, 2) = 0
            total(0, 63, 0) = 25; total(0, 63, 1) = 1; total(0, 63, 2) = 4; total(63, 63, 0) = 1; total(63, 63, 1) = 2
            fail(0, 1, 1, 1) = 1; total(0, 63, 2) = 3; total(0, 63, 0) = 21
            total(1, 0, 0) = OUTSIDE; total(-1, 0, 0) = OUTSIDE; total(0, 64, 0) = OUTSIDE; total(64, 64, 0) = OUTSIDE
            total(-1, -1, 0) = OUTSIDE; total(0, 0, 3) = OUTSIDE; total(0, 0, -1) = OUTSIDE
            """);
        Script.run(check, "Promise 16: no PLOT", HALVES + NO_PLOT + """
            total(0, 63, 0) = 0; total(0, 63, 1) = 1; total(0, 63, 2) = 0; count(4) = 0
            """);
        allDaysAtTheMost(check);
    }

    /** Every DAY at the greatest READING, but for some PLOTS of one DAY. */
    private static void allDaysAtTheMost(Check check) {
        check.part("Promise 16: all DAYS at the most");
        RainCells x = new RainCells();
        x.gauge(0, 0);
        x.gauge(0, 1);
        x.reach(0, -240);
        for (int day = 0; day <= 63; day++) {
            check.due("rain(0, " + day + ", 9999)", x.rain(0, day, 9999), RainCells.NONE);
        }
        check.due("total(0, 63, 0)", x.total(0, 63, 0), 639936);
        x.row(0, 0, 14);
        x.rain(1, 0, 9998);
        check.due("cell(0, 1, 0)", x.cell(0, 1, 0), 255);
        check.due("total(0, 63, 0)", x.total(0, 63, 0), 639935);
        check.due("total(0, 63, 1)", x.total(0, 63, 1), 1);
        x.reach(0, 0);
        check.due("cell(0, 0, 0)", x.cell(0, 0, 0), 15);
        check.due("total(0, 63, 0)", x.total(0, 63, 0), 10878896);
        check.due("total(0, 63, 1)", x.total(0, 63, 1), 17);
    }

    private static void spreads(Check check) {
        Script.run(check, "Promise 17: spread", """
            gauge(0, 0) = 0; spread(0) = NONE; rain(0, 0, 1) = NONE; spread(0) = 39680
            reach(0, 400) = 1000; spread(0) = 39680; reach(0, -400) = 1400; spread(0) = 39680
            gauge(15, 0) = 1; rain(1, 0, 1) = NONE; reach(0, 0) = 600; spread(0) = 24320
            reach(1, -400) = 1000; spread(0) = 39680; spread(1) = NONE; spread(64) = OUTSIDE; spread(-1) = OUTSIDE
            """);
        Script.run(check, "Promise 17: no PLOT", HALVES + NO_PLOT + "spread(0) = 0; kept(0) = 3; spread(1) = NONE");

        Script.run(check, "Promise 18: next, none WORKING", ROW_0_ALONE + """
            next(0, 0) = 7; next(0, 1) = 0; next(0, 2) = 344
            gauge(7, 0) = 0; next(0, 0) = 8; next(0, 2) = 344; gauge(8, 0) = 1; next(0, 0) = 6; next(0, 2) = 376
            next(0, 3) = OUTSIDE; next(0, -1) = OUTSIDE; next(64, 0) = OUTSIDE; next(-1, 0) = OUTSIDE
            row(0, 7, 8) = 2; next(0, 0) = NONE; next(0, 1) = NONE; next(0, 2) = NONE; next(0, 3) = OUTSIDE
            row(0, 1, 0) = 0; next(0, 0) = NONE; next(0, 2) = NONE; rain(0, 0, 5) = NONE; next(0, 2) = NONE; count(4) = 0
            """);
        Script.run(check, "Promise 18: next, by REACH", ROW_0_ALONE + """
            row(0, 0, 2) = 3; gauge(0, 0) = 0; rain(0, 0, 5) = NONE
            next(0, 0) = 1; next(0, 1) = 0; next(0, 2) = 1
            reach(0, 400) = 1000; next(0, 0) = 1; next(0, 2) = 5
            reach(0, -400) = 1400; next(0, 0) = 1; next(0, 2) = 2
            reach(0, 1) = 600; next(0, 0) = 2; next(0, 2) = 1  # of as little an older one HAS the PLOT
            """);
        Script.run(check, "Promise 18: next, of as little", NO_PLOT + """
            row(4, 6, 7) = 2; row(5, 6, 7) = 4; next(0, 0) = 6; next(0, 1) = 4; next(0, 2) = 4
            gauge(6, 4) = 0; next(0, 0) = 7; next(0, 1) = 4; gauge(7, 4) = 1; next(0, 0) = 6; next(0, 1) = 5; next(0, 2) = 4
            rain(0, 0, 1) = NONE; rain(1, 0, 1) = NONE; next(0, 0) = 6; next(0, 1) = 5; next(0, 2) = 1
            count(4) = 0; kept(0) = NONE
            """);
    }

    private static void eightGauges(Check check) {
        Script.run(check, "eight GAUGES: CELLS", EIGHT + """
            cell(63, 0, 0) = 32; cell(63, 7, 0) = 32; cell(63, 7, 1) = 1; cell(63, 7, 2) = 8; cell(63, 7, 3) = 2496
            border(63, 6, 7) = 16; border(63, 7, 7) = 20; border(63, 3, 3) = 4; border(63, 5, 7) = 0
            neighbours(63, 7) = 64; neighbours(63, 3) = 20; mean(63, 0) = 9; mean(63, 1) = 2; spread(63) = 19968
            owner(63, 15, 15) = 7; owner(63, 13, 0) = 6; total(0, 63, 0) = 9
            fail(7, 63, 63, 1) = 1; cell(63, 7, 0) = 0; cell(63, 6, 0) = 64; working(63) = 127
            """);
        Script.run(check, "eight GAUGES: one is lost", EIGHT + """
            shared(63, 7, 6) = 32; shared(63, 3, 2) = 16; shared(63, 3, 4) = 16; shared(63, 0, 7) = 0
            estimate(63, 7, 0) = 7; estimate(63, 3, 0) = 4; estimate(63, 3, 1) = 1; reach(0, 0) = 1000
            doubt(63, 0) = 129; doubt(63, 1) = 0
            """);
        Script.run(check, "eight GAUGES: LOOKED UP by doubt", EIGHT + """
            doubt(63, 0) = 129; count(4) = 9; count(3) = 7; count(5) = 3; count(2) = 6
            kept(0) = 247; kept(1) = 239; kept(2) = 223; kept(3) = 191; kept(4) = 255; kept(5) = 127
            """);
        Script.run(check, "eight GAUGES: the last of all in an IMAGE", EIGHT + """
            reach(7, -9) = 1000; fail(7, 63, 63, 1) = 1; row(15, 3, 14) = 252; image(1) = 1
            move(7, 15, 14) = 2; reach(7, 9) = 991; fail(7, 63, 63, 0) = 0; rain(7, 63, NONE) = 8; row(15, 1, 0) = 240
            restore(1) = 1; of(7, 0) = 1014; of(7, 1) = 1015; of(7, 2) = 991; of(7, 3) = 1; of(7, 4) = 1; reading(7, 63) = 8
            count(25) = 3; count(45) = 14; count(1) = 252
            """);
        Script.run(check, "eight GAUGES: next", EIGHT + NO_PLOT + """
            row(15, 14, 15) = 2; next(0, 0) = 15; next(0, 1) = 15; next(0, 2) = 1; next(63, 0) = 15; next(63, 2) = 0
            row(14, 14, 15) = 4; next(0, 0) = 14; next(0, 1) = 14; next(0, 2) = 4
            """);
        Script.run(check, "Promise 18: next, in two ROWS", NO_PLOT + """
            row(0, 0, 1) = 2; row(1, 0, 1) = 4; gauge(0, 0) = 0; rain(0, 0, 1) = NONE
            next(0, 0) = 1; next(0, 1) = 0; next(0, 2) = 2
            """);
    }

    private static void lostGauges(Check check) {
        Script.run(check, "Promise 19: shared", THREE_IN_ROW_0 + """
            cell(0, 0, 0) = 4; cell(0, 1, 0) = 8; cell(0, 2, 0) = 4
            shared(0, 1, 0) = 4; shared(0, 1, 2) = 4; shared(0, 0, 1) = 4; shared(0, 0, 2) = 0; shared(0, 2, 1) = 4
            fail(1, 0, 0, 1) = 1; shared(0, 1, 0) = 4; shared(0, 1, 2) = 4; shared(0, 0, 1) = 0; shared(0, 0, 2) = 8
            fail(2, 0, 0, 1) = 1; shared(0, 0, 1) = STATE; shared(0, 0, 2) = STATE
            shared(0, 1, 0) = 12; shared(0, 1, 2) = 0; shared(0, 2, 0) = 8
            shared(1, 0, 1) = STATE; shared(0, 0, 0) = OUTSIDE; shared(0, 1, 1) = OUTSIDE
            shared(64, 1, 0) = OUTSIDE; shared(-1, 1, 0) = OUTSIDE; shared(64, 0, 1) = OUTSIDE
            shared(0, 3, 0) = UNKNOWN; shared(0, 0, 3) = UNKNOWN; shared(0, -1, 0) = UNKNOWN; shared(0, 0, -1) = UNKNOWN
            shared(0, 3, 3) = UNKNOWN; shared(64, 0, 3) = UNKNOWN
            """);

        Script.run(check, "Promise 20: estimate", THREE_IN_ROW_0 + """
            estimate(0, 1, 0) = 15; estimate(0, 1, 1) = 1; rain(2, 0, 21) = 20; estimate(0, 1, 0) = 31; estimate(0, 1, 1) = 2
            estimate(0, 0, 0) = 18; estimate(0, 2, 0) = 18; fail(1, 0, 0, 1) = 1; estimate(0, 1, 0) = 31
            rain(1, 0, NONE) = 18; estimate(0, 1, 1) = 2; estimate(0, 0, 0) = 21
            rain(0, 0, 0) = 10; rain(2, 0, 0) = 21; estimate(0, 1, 0) = 0; estimate(0, 1, 1) = 1
            reach(0, 400) = 1000; estimate(0, 1, 0) = NONE; estimate(0, 1, 1) = NONE; estimate(0, 0, 0) = 0
            fail(2, 0, 0, 1) = 1; estimate(0, 0, 0) = STATE; estimate(0, 0, 1) = STATE; estimate(1, 0, 0) = STATE
            estimate(0, 0, 2) = OUTSIDE; estimate(0, 0, -1) = OUTSIDE; estimate(64, 0, 0) = OUTSIDE; estimate(-1, 0, 0) = OUTSIDE
            estimate(0, 3, 0) = UNKNOWN; estimate(0, -1, 0) = UNKNOWN; estimate(64, 3, 2) = UNKNOWN
            row(0, 1, 0) = 0; estimate(0, 1, 0) = NONE; estimate(0, 0, 0) = STATE
            """);

        Script.run(check, "Promise 21: doubt", THREE_IN_ROW_0 + """
            doubt(0, 0) = 7; doubt(0, 1) = 7; doubt(0, 2) = 3; doubt(0, 3) = 1; doubt(0, 7) = 1; doubt(0, 8) = 0; doubt(0, 9999) = 0
            rain(2, 0, 21) = 20; rain(1, 0, 16) = 18; doubt(0, 0) = 7; rain(1, 0, 15) = 16; doubt(0, 0) = 7
            doubt(0, 5) = 4; doubt(0, 4) = 5; doubt(0, 6) = 0
            rain(0, 0, 0) = 10; rain(1, 0, 0) = 15; rain(2, 0, 0) = 21; doubt(0, 0) = 0
            rain(1, 0, 9999) = 0; doubt(0, 9998) = 7; doubt(0, 9999) = 0
            fail(1, 0, 0, 1) = 1; doubt(0, 0) = 0; rain(0, 0, 3) = 0; doubt(0, 2) = 5; fail(2, 0, 0, 1) = 1; doubt(0, 0) = 0
            doubt(0, -1) = OUTSIDE; doubt(0, 10000) = OUTSIDE; doubt(64, 0) = OUTSIDE; doubt(-1, 0) = OUTSIDE; doubt(1, 0) = 0
            """);
        Script.run(check, "Promise 21: without a FIELD", THREE_IN_ROW_0 + """
            reach(0, 400) = 1000; doubt(0, 0) = 1; row(0, 1, 0) = 0; doubt(0, 0) = 0; count(2) = 4
            """);
    }

    private static void whatIsKept(Check check) {
        Script.run(check, "Promise 22: kept", THREE_IN_ROW_0 + """
            kept(0) = NONE; cell(0, 0, 0) = 4; kept(0) = 7; kept(1) = NONE
            fail(1, 0, 0, 1) = 1; cell(0, 0, 0) = 8; kept(0) = 7; kept(1) = 5; kept(2) = NONE
            fail(1, 0, 0, 0) = 0; cell(0, 0, 0) = 4; kept(0) = 5; kept(1) = 7; kept(2) = NONE
            kept(-1) = NONE; kept(MIN) = NONE; kept(MAX) = NONE; kept(6) = NONE
            """);
        Script.run(check, "Promise 22: the seventh", Scenes.A_SET_A_DAY + """
            total(0, 63, 2) = 7
            count(2) = 6; count(4) = 7; count(5) = 1; kept(0) = 2; kept(1) = 3; kept(4) = 6; kept(5) = 7; kept(6) = NONE
            spread(2) = 39680; kept(0) = 3; kept(5) = 2; count(3) = 1; count(5) = 1
            spread(1) = 39680; kept(0) = 4; kept(4) = 2; kept(5) = 1; count(5) = 2; count(4) = 8
            """);

        Script.run(check, "Promise 23, 24: image, restore", """
            gauge(1, 2) = 0; reach(0, 5) = 1000; rain(0, 3, 7) = NONE; fail(0, 1, 2, 1) = 2; row(4, 2, 3) = 242
            restore(0) = STATE; image(0) = 1; count(6) = 1; restore(1) = STATE
            move(0, 9, 9) = 113; reach(0, -5) = 1005; rain(0, 3, NONE) = 7; rain(0, 4, 1) = NONE; fail(0, 0, 63, 1) = 64
            row(4, 0, 15) = 256; row(9, 1, 0) = 240; gauge(8, 8) = 1; reach(1, 9) = 1000; rain(1, 0, 3) = NONE; fail(1, 0, 0, 1) = 1
            image(1) = 1; count(6) = 3
            restore(0) = 1; count(0) = 1; count(1) = 242; count(14) = 2; count(34) = 3; count(19) = 0
            of(0, 0) = 1001; of(0, 1) = 1002; of(0, 2) = 1005; of(0, 3) = 2; of(0, 4) = 1; reading(0, 3) = 7; reading(0, 4) = NONE
            of(1, 0) = UNKNOWN; working(3) = 1
            gauge(8, 8) = 1; of(1, 2) = 1000; of(1, 3) = 0; of(1, 4) = 0; reading(1, 0) = NONE  # a new one, not the old one
            restore(0) = 1; count(0) = 1; restore(1) = 1; count(0) = 2; of(1, 2) = 1009; of(1, 3) = 1; reading(1, 0) = 3
            of(0, 0) = 1009; of(0, 3) = 64; count(14) = 0; count(19) = NONE; count(1) = 240
            image(0) = 1; restore(1) = 1; restore(0) = 1; of(0, 0) = 1009; count(6) = 3
            image(2) = OUTSIDE; image(-1) = OUTSIDE; restore(2) = OUTSIDE; restore(-1) = OUTSIDE
            """);
        Script.run(check, "Promise 23: the second alone", """
            image(1) = 1; count(6) = 2; restore(0) = STATE; gauge(0, 0) = 0; restore(1) = 1; count(0) = 0; count(6) = 2
            """);
        Script.run(check, "Promise 23, 24: what is not in an IMAGE", HALVES + """
            spread(0) = 24320; image(0) = 1; kept(0) = 3; count(2) = 1  # an IMAGE lets nothing go
            spread(0) = 24320; count(3) = 1; restore(1) = STATE; restore(2) = OUTSIDE; kept(0) = 3
            restore(0) = 1; kept(0) = NONE; count(2) = 0; count(3) = 1; count(4) = 1; count(5) = 0
            spread(0) = 24320; count(4) = 2
            """);

        Script.run(check, "Promise 25: count", HALVES + """
            count(0) = 2; row(0, 3, 9) = 247; row(15, 4, 4) = 232; row(8, 9, 8) = 216; count(1) = 216
            count(10) = 3; count(30) = 9; count(25) = 4; count(45) = 4; count(18) = NONE; count(38) = NONE
            count(7) = OUTSIDE; count(8) = OUTSIDE; count(9) = OUTSIDE; count(26) = OUTSIDE; count(29) = OUTSIDE
            count(46) = OUTSIDE; count(-1) = OUTSIDE; count(MAX) = OUTSIDE; count(MIN) = OUTSIDE
            """);
    }

    private static void lookingUp(Check check) {
        Script.run(check, "LOOKED UP: one set a call", THREE_IN_ROW_0 + """
            count(4) = 0; owner(0, 0, 0) = 0; count(4) = 1; cell(0, 0, 0) = 4; count(3) = 1; cell(0, 0, 3) = 14; count(3) = 2
            border(0, 0, 1) = 1; count(3) = 3; border(0, 0, 0) = 9; count(3) = 4; neighbours(0, 0) = 2; count(3) = 5
            mean(0, 0) = 33; count(3) = 6; mean(0, 1) = 2; count(3) = 7; total(0, 5, 2) = 1; count(3) = 8
            next(0, 0) = 10; count(3) = 8; working(0) = 7; reading(0, 0) = 10; kept(0) = 7; of(0, 0) = 1000; count(3) = 8
            shared(0, 1, 0) = 4; count(3) = 9; count(4) = 2; kept(0) = 7; kept(1) = 5
            estimate(0, 1, 0) = 15; count(3) = 11; count(4) = 2; kept(0) = 7; kept(1) = 5
            doubt(0, 0) = 7; count(3) = 15; count(4) = 4; kept(0) = 6; kept(1) = 5; kept(2) = 7; kept(3) = 3
            """);
        Script.run(check, "LOOKED UP: never the empty one", THREE_IN_ROW_0 + """
            owner(1, 0, 0) = NONE; cell(1, 0, 0) = 0; border(1, 0, 1) = 0; neighbours(1, 0) = 0; mean(1, 0) = STATE
            spread(1) = NONE; total(1, 63, 2) = 0; shared(1, 0, 1) = STATE; estimate(1, 0, 0) = STATE; doubt(1, 0) = 0
            rain(0, 1, 4) = NONE; shared(1, 0, 1) = STATE; estimate(1, 0, 0) = STATE; doubt(1, 0) = 0
            count(2) = 0; count(3) = 0; count(4) = 0
            shared(1, 1, 0) = 12; count(4) = 2; kept(0) = 3; kept(1) = 1
            shared(1, 2, 1) = 0; count(4) = 3; count(3) = 1; kept(0) = 3; kept(1) = 5; kept(2) = 1
            """);
        Script.run(check, "LOOKED UP: what is refused does not", THREE_IN_ROW_0 + """
            owner(64, 0, 0) = OUTSIDE; owner(0, 16, 0) = OUTSIDE; owner(0, 0, 1) = NO; cell(0, 0, 4) = OUTSIDE; cell(0, 3, 0) = UNKNOWN
            border(0, 0, 3) = UNKNOWN; border(64, 0, 0) = OUTSIDE; neighbours(0, 3) = UNKNOWN; mean(0, 2) = OUTSIDE
            total(0, 0, 3) = OUTSIDE; spread(64) = OUTSIDE; shared(0, 0, 0) = OUTSIDE; shared(0, 0, 3) = UNKNOWN
            estimate(0, 0, 2) = OUTSIDE; doubt(0, 10000) = OUTSIDE; next(0, 3) = OUTSIDE; count(4) = 0; count(2) = 0
            """);
        Script.run(check, "KEPT: what lets it go", HALVES + """
            spread(0) = 24320; row(0, 0, 15) = 256; count(2) = 0; spread(0) = 24320; gauge(30, 30) = 2; count(2) = 0
            spread(0) = 24320; move(2, 30, 30) = 0; count(2) = 0; spread(0) = 24320; reach(2, 0) = 1000; count(2) = 0
            spread(0) = 24320; image(0) = 1; count(2) = 1; restore(0) = 1; count(2) = 0; count(4) = 5; count(3) = 0; count(5) = 0
            """);
        Script.run(check, "KEPT: what does not", HALVES + """
            spread(0) = 24320; row(16, 0, 0) = OUTSIDE; gauge(0, 0) = NO; gauge(36, 0) = OUTSIDE; move(0, 15, 0) = NO
            move(2, 0, 0) = UNKNOWN; move(0, 36, 0) = OUTSIDE; reach(0, 401) = OUTSIDE; reach(2, 0) = UNKNOWN; restore(0) = STATE
            fail(0, 0, 63, 1) = 64; fail(0, 0, 63, 0) = 0; rain(0, 0, 5) = 10; rain(0, 5, 5) = NONE; image(0) = 1; image(2) = OUTSIDE
            count(2) = 1; kept(0) = 3; spread(0) = 24320; count(3) = 1; mean(0, 0) = 13; count(4) = 1
            """);
    }

    /** The greatest and the least int as every argument: nothing but a refusal is due. */
    private static void extremes(Check check) {
        for (String n : new String[] {"MAX", "MIN"}) {
            Script.run(check, "extremes", (HALVES + """
                row(N, N, N) = OUTSIDE; row(0, N, 0) = OUTSIDE; row(0, 0, N) = OUTSIDE; gauge(N, N) = OUTSIDE; gauge(1, N) = OUTSIDE
                move(N, N, N) = UNKNOWN; move(0, N, 0) = OUTSIDE; move(0, 0, N) = OUTSIDE; reach(N, 0) = UNKNOWN; reach(0, N) = OUTSIDE
                fail(N, 0, 0, 0) = UNKNOWN; fail(0, N, 0, 0) = OUTSIDE; fail(0, 0, N, 0) = OUTSIDE; fail(0, 0, 0, N) = OUTSIDE
                rain(N, 0, 0) = UNKNOWN; rain(0, N, 0) = OUTSIDE; rain(0, 0, N) = OUTSIDE; of(N, 0) = UNKNOWN; of(0, N) = OUTSIDE
                reading(N, 0) = UNKNOWN; reading(0, N) = OUTSIDE; working(N) = OUTSIDE; owner(N, 0, 0) = OUTSIDE
                owner(0, N, 0) = OUTSIDE; owner(0, 0, N) = OUTSIDE; cell(N, 0, 0) = OUTSIDE; cell(0, N, 0) = UNKNOWN; cell(0, 0, N) = OUTSIDE
                border(N, 0, 0) = OUTSIDE; border(0, N, 0) = UNKNOWN; border(0, 0, N) = UNKNOWN; border(0, N, N) = UNKNOWN
                neighbours(N, 0) = OUTSIDE; neighbours(0, N) = UNKNOWN; mean(N, 0) = OUTSIDE; mean(0, N) = OUTSIDE
                total(N, 0, 0) = OUTSIDE; total(0, N, 0) = OUTSIDE; total(0, 0, N) = OUTSIDE; total(N, N, 0) = OUTSIDE
                spread(N) = OUTSIDE; next(N, 0) = OUTSIDE; next(0, N) = OUTSIDE; shared(N, 0, 1) = OUTSIDE; shared(0, N, 0) = UNKNOWN
                shared(0, 0, N) = UNKNOWN; shared(0, N, N) = UNKNOWN; estimate(N, 0, 0) = OUTSIDE; estimate(0, N, 0) = UNKNOWN
                estimate(0, 0, N) = OUTSIDE; doubt(N, 0) = OUTSIDE; doubt(0, N) = OUTSIDE; kept(N) = NONE
                image(N) = OUTSIDE; restore(N) = OUTSIDE; count(N) = OUTSIDE; count(4) = 0; count(1) = 256; count(0) = 2
                """).replaceAll("\\bN\\b", n));
        }
    }
}
