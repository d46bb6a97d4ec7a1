import java.util.function.IntUnaryOperator;

/** The boundary cases of "Terms" 3 and of promises 16 to 39: what lies ahead, what is best, who is whose and like whom. */
public final class ViewEdgesTest {
    private static final String FOUR = Edges.text("30 12", "8/a/5/2 6/a/7 6/a/0/1 5/b/63", "pines 2;tales 3;draw 7;");
    private static final String NONE_THERE = Edges.text("30 12", "", "");

    public static void main(String[] args) {
        nothingIsDone();
        bySeedAsItIs();
        beyondTheLastYear();
        will();
        alive();
        packFewest();
        packFirst();
        packLies();
        fillMost();
        fillLike();
        fillNone();
        siresFewest();
        siresNone();
        quartetParted();
        quartetLike();
        quartetNone();
        span();
        line();
        litter();
        kin();
        kinOfMany();
        need();
        bestMost();
        bestRooms();
        bestNone();
        rivalsRests();
        rivalsTooFull();
        rivalsLies();
        rivalsNone();
        fading();
        alike();
        like();
        odd();
        bearers();
        roomiest();
        ripe();
        law();
        pining();
        gone();
        lies();
        eightSeen();
        eightAlike();
        eightStowed();
        Edges.close();
    }

    /** For n: at the edges within 0 .. 30 it answers something else than NONE, beyond them NONE. */
    private static void years(String call, IntUnaryOperator answers) {
        for (int n : new int[] {0, 1, 29, 30}) {
            Edges.due(call + " of " + n + " is told", answers.applyAsInt(n) >= 0, true);
        }
        for (int n : new int[] {-1, -2, -30, 31, 32, 60, 1000, Integer.MIN_VALUE, Integer.MAX_VALUE}) {
            Edges.due(call + " of " + n, answers.applyAsInt(n), -1);
        }
    }

    private static void lived(TrunkLitters x) {
        Texts.house(x, Edges.text("60 60 9", "8/a/42/9 9/a/21/9 5/b/7/4 3/b/56/2", "tales 5;draw 7;brood bulk;pines 4;"));
        x.year();
        x.image(1);
        x.tell(2);
        x.year();
        x.carry(0, 1);
        x.undo();
    }

    private static void nothingIsDone() {
        Edges.sentence("(By what is now; nothing is done; ..)");
        Edges.nothing("will(0, 30, 0)", ViewEdgesTest::lived, o -> o.will(7, 30, 0) * 0, 0);
        Edges.nothing("alive(30)", ViewEdgesTest::lived, o -> o.alive(30) * 0, 0);
        Edges.nothing("law(1, 30)", ViewEdgesTest::lived, o -> o.law(1, 30) * 0, 0);
        Edges.nothing("gone(0)", ViewEdgesTest::lived, o -> o.gone(0) * 0, 0);
        Edges.nothing("fading(30)", ViewEdgesTest::lived, o -> o.fading(30) * 0, 0);
        Edges.nothing("best(0, 1)", ViewEdgesTest::lived, o -> o.best(0, 1) * 0, 0);
        Edges.nothing("fill(0, 1)", ViewEdgesTest::lived, o -> o.fill(0, 1) * 0, 0);
        Edges.nothing("sires(0, 0)", ViewEdgesTest::lived, o -> o.sires(0, 0) * 0, 0);
        Edges.nothing("quartet(0, 1, 2, 3, 0)", ViewEdgesTest::lived, o -> o.quartet(0, 1, 2, 3, 0) * 0, 0);
        Edges.nothing("span()", ViewEdgesTest::lived, o -> o.span() * 0, 0);
        Edges.nothing("line(4)", ViewEdgesTest::lived, o -> o.line(4) * 0, 0);
        Edges.nothing("kin(4, 5)", ViewEdgesTest::lived, o -> o.kin(4, 5) * 0, 0);
        Edges.nothing("need(30)", ViewEdgesTest::lived, o -> o.need(30) * 0, 0);
        Edges.nothing("ripe()", ViewEdgesTest::lived, o -> o.ripe() * 0, 0);
        Edges.nothing("brood(0, 1)", ViewEdgesTest::lived, o -> o.brood(0, 1) * 0, 0);
        Edges.nothing("couple(0)", ViewEdgesTest::lived, o -> o.couple(0) * 0, 0);
        // of these two what lies there is all that they change
        TrunkLitters with = new TrunkLitters();
        TrunkLitters without = new TrunkLitters();
        lived(with);
        lived(without);
        with.pack();
        with.rivals(0, 2);
        for (int what = 0; what < 15; what++) {
            if (what != 12) {
                Edges.due("about(" + what + ") behind pack() and rivals(0, 2)", with.about(what), without.about(what));
            }
        }
        for (int t = 0; t < 8; t++) {
            for (int what = 0; what < 7; what++) {
                Edges.due("trunk(" + t + ", " + what + ")", with.trunk(t, what), without.trunk(t, what));
            }
        }
        Edges.due("redo()", with.redo(), true);
    }

    private static void bySeedAsItIs() {
        Edges.sentence("what lies ahead goes by the SEED as it is");
        TrunkLitters x = Edges.told("90", "8/a/63/9 7/a/0/9", "draw 5;brood 1;pines 9;");
        for (int year = 0; year < 5; year++) {
            int marks = x.will(2 + year, 1, 1);
            int bulk = x.will(2 + year, 1, 0);
            int alive = x.alive(1);
            int later = x.alive(4);
            Edges.due("year()", x.year(), 4 << year);
            Edges.due("will(" + (2 + year) + ", 1, 1)", marks, x.trunk(2 + year, 2));
            Edges.due("will(" + (2 + year) + ", 1, 0)", bulk, x.trunk(2 + year, 0));
            Edges.due("alive(1)", alive, x.about(2));
            Edges.due("alive(4)", later, x.alive(3));
        }
    }

    /**
     * So many YEARS are more calls than are promised, and no TRUNK lasts so long (ninety-nine tales are nine YEARS each at
     * the most); what is beyond is held to all the same.
     */
    private static void beyondTheLastYear() {
        Edges.sentence("beyond the last year, too");
        TrunkLitters x = Edges.told("60", "8/a/1", "pines 9;brood year > 0;");
        for (int year = 1; year <= 999; year++) {
            x.year();
        }
        Edges.due("year()", x.year(), -1);
        Edges.due("alive(30)", x.alive(30), 0);
        Edges.due("law(9, 30)", x.law(9, 30), 0);
        Edges.due("fading(30)", x.fading(30), 0);
        Edges.due("about(4)", x.about(4), 999);
    }

    private static void will() {
        Edges.sentence("Of the TRUNK at a place behind n YEARS (0 .. 30) what 0: BULK, 1: MARKS; NONE if there is none there then, "
            + "or one can't be.");
        TrunkLitters x = Edges.told("40", "8/a/42/9 9/a/21/9", "draw 7;brood bulk;pines 9;");
        Edges.due("will(0, 0, 0): now", x.will(0, 0, 0), 8);
        Edges.due("will(0, 0, 1)", x.will(0, 0, 1), 42);
        Edges.due("will(2, 0, 0): not yet", x.will(2, 0, 0), -1);
        Edges.due("will(2, 1, 0)", x.will(2, 1, 0), 4);
        Edges.due("will(2, 1, 1)", x.will(2, 1, 1), 52);
        Edges.due("will(0, 17, 0): it PINES 8", x.will(0, 17, 0) > 0, true);
        Edges.due("will(0, 18, 0): gone, and no COUPLE is there", x.will(0, 18, 0), -1);
        Edges.due("will(0, 30, 0)", x.will(0, 30, 0), -1);
        TrunkLitters long30 = Edges.told("40", "20/a/42/9", "pines 9;tales 99;");
        Edges.due("will(0, 17, 1)", long30.will(0, 17, 1), 42);
        Edges.never("will(0, #, 0)", n -> x.will(0, n, 0), -1, -1, 31, 32, Integer.MIN_VALUE, Integer.MAX_VALUE);
        Edges.never("will(0, #, 1)", n -> x.will(0, n, 1), -1, -1, 31, 32, Integer.MIN_VALUE, Integer.MAX_VALUE);
        Edges.never("will(#, 0, 0)", t -> x.will(t, 0, 0), -1, Edges.FAR);
        Edges.never("will(#, 1, 1)", t -> x.will(t, 1, 1), -1, 3, 4, 5, 6, 7, 8, -1);
        Edges.never("will(0, 0, #)", what -> x.will(0, 0, what), -1, -2, -1, 2, 3, Integer.MIN_VALUE, Integer.MAX_VALUE);
        // 30 itself: with nine tales each time a COUPLE of young ones goes on
        TrunkLitters y = Edges.told("1", "1/a/5/9", "pines 9;");
        Edges.due("MARKS may be 0", Edges.told("1", "1/a/0", "").will(0, 0, 1), 0);
        Edges.due("will(0, 17, 0)", y.will(0, 17, 0), 1);
        Edges.due("will(0, 18, 0)", y.will(0, 18, 0), -1);
    }

    private static void alive() {
        Edges.sentence("TRUNKS that there are behind n YEARS (0 .. 30), as bits; NONE for another n.");
        TrunkLitters x = Edges.told(FOUR);
        int[] due = {15, 15, 5, 1, 0};
        for (int n = 0; n < due.length; n++) {
            Edges.due("alive(" + n + ")", x.alive(n), due[n]);
        }
        years("alive", x::alive);
        years("alive without TRUNKS", new TrunkLitters()::alive);
        // at n it is as if n times year() was called
        TrunkLitters y = Edges.told("90 40", "8/a/63/9 7/a/0/9 5/b/5/3 4/b/6/9", "draw 5;brood 9-many;pines 5;");
        int[] ahead = new int[31];
        for (int n = 0; n <= 30; n++) {
            ahead[n] = y.alive(n);
        }
        for (int n = 0; n <= 30; n++) {
            Edges.due("alive(" + n + ")", ahead[n], y.about(2));
            y.year();
        }
    }

    private static void packFewest() {
        Edges.sentence("all TRUNKS anew into ROOMS so that none holds more than it can, in as few ROOMS as can be");
        Edges.due("two that fill one", Edges.told("9 12", "7/a/1 5/b/1", "").pack(), 1);
        Edges.due("two that are one more", Edges.told("9 11", "7/a/1 5/b/1", "").pack(), 2);
        Edges.due("four in four", Edges.told("3 3 3 3", "2/a/1 2/b/1 2/c/1 2/d/1", "").pack(), 4);
        Edges.due("four in two", Edges.told("3 4 3 4", "2/a/1 2/b/1 2/c/1 2/d/1", "").pack(), 2);
        Edges.due("three though 30 of 30 are held", Edges.told("10 10 10", "6/a/1 6/b/1 6/c/1 4/a/1 4/b/1 4/c/1", "").pack(), 3);
        Edges.due("one TRUNK", Edges.told("9 9", "5/b/1", "").pack(), 1);
        Edges.due("no TRUNK", Edges.told(NONE_THERE).pack(), 0);
        Edges.due("no ROOM", new TrunkLitters().pack(), 0);
        // the greatest first would be 10 + 3 | 7 + 6 + 2 and so on; all ways are tried
        Edges.due("7 + 5 and 6 + 4 + 2", Edges.told("20 12 12", "7/a/1 6/a/1 5/a/1 4/b/1 2/b/1", "").pack(), 2);
        // MARKS, tales and who PINES do not matter, nor where they stand
        TrunkLitters x = Edges.told("30 30", "5/b/1 6/b/1", "pines 9;");
        x.year();
        Edges.due("pack() of those that PINE", x.pack(), 1);
        Edges.lie(x, 0, 0, -1, -1, -1, -1, -1, -1);
    }

    private static void packFirst() {
        Edges.sentence("of like ones the first (TRUNK by TRUNK: the least ROOM)");
        TrunkLitters x = Edges.told("9 9 9", "5/c/1 5/b/1 4/c/1 4/b/1", "");
        Edges.due("pack()", x.pack(), 2);
        Edges.lie(x, 0, 1, 0, 1, -1, -1, -1, -1);
        x = Edges.told("4 9 9", "5/c/1 4/b/1", "");
        Edges.due("pack(): one ROOM, the least that can be", x.pack(), 1);
        Edges.lie(x, 1, 1, -1, -1, -1, -1, -1, -1);
        // as few ROOMS as can be goes ahead of the least ROOM
        x = Edges.told("5 4 9", "5/c/1 4/c/1", "");
        Edges.due("pack()", x.pack(), 1);
        Edges.lie(x, 2, 2, -1, -1, -1, -1, -1, -1);
        // the first one in the least ROOM, though another way would spare it
        x = Edges.told("6 9 6", "3/b/1 6/b/1 3/a/1", "");
        Edges.due("pack()", x.pack(), 2);
        Edges.lie(x, 0, 1, 0, -1, -1, -1, -1, -1);
        x = Edges.told("6 9 6", "3/b/1 6/b/1 6/a/1", "");
        Edges.due("pack()", x.pack(), 2);
        Edges.lie(x, 1, 0, 1, -1, -1, -1, -1, -1);
    }

    private static void packLies() {
        Edges.sentence("The ROOM of each place (-1: no TRUNK) lies there then (behind NONE: nothing).");
        TrunkLitters x = Edges.told("40 40", "5/b/1/9 5/b/1/9 5/b/1/9", "brood 0;");
        x.pack();
        Edges.lie(x, 0, 0, 0, -1, -1, -1, -1, -1);
        x.lose(0);
        Edges.lie(x, 0, 0, 0, -1, -1, -1, -1, -1);
        x.pack();
        Edges.lie(x, -1, 0, 0, -1, -1, -1, -1, -1);
        x.lose(1);
        x.lose(2);
        Edges.due("pack() of none", x.pack(), 0);
        Edges.lie(x, -1, -1, -1, -1, -1, -1, -1, -1);
        // eight TRUNKS
        x = Edges.told("99", "1/a/1/9 1/a/1/9 1/a/1/9 1/a/1/9 1/a/1/9 1/a/1/9", "brood 1;");
        x.year();
        x.year();
        Edges.due("pack() of eight", x.pack(), 1);
        Edges.lie(x, 0, 0, 0, 0, 0, 0, 0, 0);
        // what stands in its ROOMS always can be, so there is no NONE
        x = Edges.told("1", "1/a/1", "");
        Edges.due("pack() of a full ROOM", x.pack(), 1);
        Edges.lie(x, 0, -1, -1, -1, -1, -1, -1, -1);
    }

    private static void fillMost() {
        Edges.sentence("TRUNKS (of all, wherever they stand) of the most BULK together that it holds, were it empty");
        TrunkLitters x = Edges.told("30 12 1 0", "8/a/5 6/a/7 6/a/0 5/b/63", "");
        int[][] due = {{25, 15}, {12, 6}, {0, 0}, {0, 0}};
        for (int r = 0; r < 4; r++) {
            Edges.due("fill(" + r + ", 0)", x.fill(r, 0), due[r][0]);
            Edges.due("fill(" + r + ", 1)", x.fill(r, 1), due[r][1]);
        }
        Edges.due("all, just so much", Edges.told("20 9", "9/a/1 5/a/1 6/a/1", "").fill(0, 1), 7);
        Edges.due("all but one more", Edges.told("20 19", "9/a/1 5/a/1 6/a/1", "").fill(1, 1), 5);
        Edges.due("15 of 19", Edges.told("20 19", "9/a/1 5/a/1 6/a/1", "").fill(1, 0), 15);
        Edges.due("one of just so much", Edges.told("20 9", "9/a/1 5/a/1", "").fill(1, 1), 1);
        Edges.due("one of one more", Edges.told("20 8", "9/a/1 5/a/1", "").fill(1, 1), 2);
        Edges.due("the least that can be", Edges.told("20 1", "1/a/1", "").fill(1, 0), 1);
        Edges.due("the least that can be", Edges.told("20 1", "2/a/1 1/a/1", "").fill(1, 1), 2);
        Edges.due("full as it is", Edges.told("14 8", "9/a/1 5/a/1", "").fill(0, 0), 14);
        x.lose(0);
        Edges.due("fill(0, 0) without one", x.fill(0, 0), 17);
        Edges.due("fill(0, 1) without one", x.fill(0, 1), 14);
    }

    private static void fillLike() {
        Edges.sentence("of like ones the fewest, then the least set as bits");
        String trunks = "4/a/1 3/a/1 5/a/1 9/a/1 9/a/1 6/a/1";
        TrunkLitters x = Edges.told("90 9", trunks, "");
        Edges.due("fill(1, 1): one of 9, the least of two", x.fill(1, 1), 8);
        x.lose(3);
        Edges.due("fill(1, 1): the other one of 9", x.fill(1, 1), 16);
        x.lose(4);
        Edges.due("fill(1, 1): 4 and 5, not 3 and 6", x.fill(1, 1), 1 + 4);
        x.lose(0);
        Edges.due("fill(1, 1): 3 and 6", x.fill(1, 1), 2 + 32);
        // the fewest though they are a greater set
        Edges.due("fill(1, 1): 6, not 1 and 5, 2 and 4", Edges.told("90 6", "1/a/1 2/a/1 4/a/1 5/a/1 6/a/1", "").fill(1, 1), 16);
        Edges.due("fill(1, 1): 1 and 5 and 2 and 4 alike", Edges.told("90 6", "1/a/1 2/a/1 4/a/1 5/a/1", "").fill(1, 1), 2 + 4);
        Edges.due("fill(1, 1): two, not three", Edges.told("90 6", "1/a/1 2/a/1 3/a/1 4/a/1", "").fill(1, 1), 2 + 8);
    }

    private static void fillNone() {
        Edges.sentence("FILL what 0: BULK together, 1: which, as bits; NONE if there is no such ROOM, or for another what.");
        TrunkLitters x = Edges.told(FOUR);
        Edges.due("fill(2, 0)", x.fill(2, 0), -1);
        Edges.due("fill(2, 1)", x.fill(2, 1), -1);
        Edges.never("fill(#, 0)", r -> x.fill(r, 0), -1, Edges.FAR);
        Edges.never("fill(#, 1)", r -> x.fill(r, 1), -1, Edges.FAR);
        Edges.due("fill(0, 2)", x.fill(0, 2), -1);
        Edges.never("fill(0, #)", what -> x.fill(0, what), -1, Edges.FAR);
        Edges.due("fill(0, 0) without TRUNKS", Edges.told(NONE_THERE).fill(0, 0), 0);
        Edges.due("fill(0, 1) without TRUNKS", Edges.told(NONE_THERE).fill(0, 1), 0);
        Edges.due("fill(0, 0) without ROOMS", new TrunkLitters().fill(0, 0), -1);
    }

    private static void siresFewest() {
        Edges.sentence("the two others of which the fewest MARKS of it differ from both; of like ones the first (the lesser number, "
            + "then the other one)");
        // 9 is 001001: 1 and 8 have both of its MARKS between them, 32 and 2 none
        TrunkLitters x = Edges.told("90", "1/a/9 1/a/32 1/a/1 1/a/8 1/a/9", "");
        int[][] due = {{1, 4, 0}, {2, 3, 1}, {0, 1, 0}, {0, 1, 0}, {0, 1, 0}};
        for (int t = 0; t < 5; t++) {
            for (int what = 0; what < 3; what++) {
                Edges.due("sires(" + t + ", " + what + ")", x.sires(t, what), due[t][what]);
            }
        }
        x.lose(4);
        Edges.due("sires(0, 0): 1 and 8", x.sires(0, 0), 2);
        Edges.due("sires(0, 1)", x.sires(0, 1), 3);
        Edges.due("sires(0, 2)", x.sires(0, 2), 0);
        // all like ones: the first two others
        x = Edges.told("90", "1/a/9 1/a/9 1/a/9 1/a/9", "");
        int[][] first = {{1, 2}, {0, 2}, {0, 1}, {0, 1}};
        for (int t = 0; t < 4; t++) {
            Edges.due("sires(" + t + ", 0)", x.sires(t, 0), first[t][0]);
            Edges.due("sires(" + t + ", 1)", x.sires(t, 1), first[t][1]);
        }
        Edges.due("sires(0, 2): all six", Edges.told("9", "1/a/63 1/a/0 1/a/0", "").sires(0, 2), 6);
        Edges.due("sires(0, 2): MARKS that it has not", Edges.told("9", "1/a/0 1/a/7 1/a/13", "").sires(0, 2), 2);
        // the lesser number first: 0 and 3 are as good as 1 and 2
        x = Edges.told("90", "1/a/3 1/a/3 1/a/12 1/a/12 1/a/15", "");
        Edges.due("sires(4, 0)", x.sires(4, 0), 0);
        Edges.due("sires(4, 1)", x.sires(4, 1), 2);
    }

    private static void siresNone() {
        Edges.sentence("NONE with fewer than two others, if there is none such, or for another what.");
        TrunkLitters x = Edges.told("9", "1/a/1 1/a/2 1/a/3", "");
        Edges.due("sires(0, 0) with two others", x.sires(0, 0), 1);
        Edges.never("sires(0, #)", what -> x.sires(0, what), -1, 3, 4);
        Edges.never("sires(0, #)", what -> x.sires(0, what), -1, Edges.FAR);
        Edges.never("sires(#, 0)", t -> x.sires(t, 0), -1, 3, 4, 5, 6, 7);
        Edges.never("sires(#, 2)", t -> x.sires(t, 2), -1, Edges.FAR);
        x.lose(1);
        for (int what = 0; what < 3; what++) {
            Edges.due("sires(0, " + what + ") with one other", x.sires(0, what), -1);
            Edges.due("sires(1, " + what + "): gone", x.sires(1, what), -1);
        }
        x.lose(2);
        Edges.due("sires(0, 2) alone", x.sires(0, 2), -1);
        Edges.due("sires(0, 0) without", new TrunkLitters().sires(0, 0), -1);
    }

    private static void quartetParted() {
        Edges.sentence("0 the first two apart from the others, 1 the first and the third one, 2 the first and the fourth one: by "
            + "which the fewest changes of MARKS explain all four (of a MARK 0, if all have it alike; 2, if it is two and two, but "
            + "not as they are parted; else 1)");
        // one MARK each way: who has it, and what that costs parted as 0, 1, 2
        int[][] one = {{0, 0, 0, 0}, {1, 1, 1, 1}, {2, 1, 1, 1}, {4, 1, 1, 1}, {8, 1, 1, 1}, {14, 1, 1, 1}, {13, 1, 1, 1},
            {11, 1, 1, 1}, {7, 1, 1, 1}, {15, 0, 0, 0}, {3, 1, 2, 2}, {12, 1, 2, 2}, {5, 2, 1, 2}, {10, 2, 1, 2}, {6, 2, 2, 1},
            {9, 2, 2, 1}};
        for (int[] o : one) {
            for (int k = 0; k < 6; k++) {
                StringBuilder trunks = new StringBuilder();
                for (int t = 0; t < 4; t++) {
                    trunks.append(t == 0 ? "" : " ").append("1/a/").append((o[0] >> t & 1) << k);
                }
                TrunkLitters x = Edges.told("9", trunks.toString(), "");
                int least = Math.min(o[1], Math.min(o[2], o[3]));
                int how = o[1] == least ? 0 : o[2] == least ? 1 : 2;
                Edges.due("quartet(.., 0) of " + o[0] + " at " + k, x.quartet(0, 1, 2, 3, 0), how);
                Edges.due("quartet(.., 1) of " + o[0] + " at " + k, x.quartet(0, 1, 2, 3, 1), least);
            }
        }
        // by numbers told, not by places
        TrunkLitters x = Edges.told("9", "1/a/1 1/a/1 1/a/2 1/a/2", "");
        Edges.due("quartet(0, 1, 2, 3, 0)", x.quartet(0, 1, 2, 3, 0), 0);
        Edges.due("quartet(0, 2, 1, 3, 0)", x.quartet(0, 2, 1, 3, 0), 1);
        Edges.due("quartet(0, 2, 3, 1, 0)", x.quartet(0, 2, 3, 1, 0), 2);
        Edges.due("quartet(3, 2, 1, 0, 0)", x.quartet(3, 2, 1, 0, 0), 0);
        Edges.due("quartet(3, 1, 0, 2, 0)", x.quartet(3, 1, 0, 2, 0), 2);
        for (int way = 0; way < 3; way++) {
            Edges.due("quartet(.., 1)", x.quartet(0, way == 0 ? 1 : 2, way == 1 ? 1 : way == 0 ? 2 : 3, way == 2 ? 1 : 3, 1), 2);
        }
    }

    private static void quartetLike() {
        Edges.sentence("of like ones the least");
        TrunkLitters x = Edges.told("9", "1/a/5 1/a/5 1/a/5 1/a/5", "");
        Edges.due("all alike", x.quartet(2, 0, 3, 1, 0), 0);
        Edges.due("all alike", x.quartet(2, 0, 3, 1, 1), 0);
        // a MARK for 0, one for 1, one for 2: 1 + 2 + 2 each way
        x = Edges.told("9", "1/a/7 1/a/1 1/a/2 1/a/4", "");
        Edges.due("one for each", x.quartet(0, 1, 2, 3, 0), 0);
        Edges.due("one for each", x.quartet(0, 1, 2, 3, 1), 5);
        // one for 1 and one for 2: 1 goes ahead of 2
        x = Edges.told("9", "1/a/6 1/a/0 1/a/2 1/a/4", "");
        Edges.due("1 and 2 alike", x.quartet(0, 1, 2, 3, 0), 1);
        Edges.due("1 and 2 alike", x.quartet(0, 1, 2, 3, 1), 3);
        // the most that can be: six MARKS of two and two, two for each way
        x = Edges.told("9", "1/a/63 1/a/9 1/a/18 1/a/36", "");
        Edges.due("six of two and two", x.quartet(0, 1, 2, 3, 1), 10);
    }

    private static void quartetNone() {
        Edges.sentence("QUARTET what 0: how they are parted, 1: changes; NONE if they are not four, or one can't be.");
        TrunkLitters x = Edges.told("9", "1/a/5 1/a/6 1/a/7 1/a/8 1/a/9", "");
        int[] four = {0, 1, 2, 3};
        for (int i = 0; i < 4; i++) {
            for (int j = 0; j < 4; j++) {
                if (i != j) {
                    int[] q = four.clone();
                    q[i] = q[j];
                    Edges.due("quartet of three, " + i + " as " + j, x.quartet(q[0], q[1], q[2], q[3], 0), -1);
                    Edges.due("quartet of three, " + i + " as " + j, x.quartet(q[0], q[1], q[2], q[3], 1), -1);
                }
            }
            for (int t : Edges.FAR) {
                int[] q = four.clone();
                q[i] = t;
                Edges.due("quartet, " + i + " is " + t, x.quartet(q[0], q[1], q[2], q[3], 1), -1);
            }
            for (int t = 5; t < 8; t++) {
                int[] q = four.clone();
                q[i] = t;
                Edges.due("quartet, " + i + " is " + t, x.quartet(q[0], q[1], q[2], q[3], 0), -1);
            }
        }
        Edges.never("quartet(0, 1, 2, 3, #)", what -> x.quartet(0, 1, 2, 3, what), -1, -2, -1, 2, 3, Integer.MIN_VALUE,
            Integer.MAX_VALUE);
        Edges.due("quartet(4, 3, 2, 1, 1)", x.quartet(4, 3, 2, 1, 1) > 0, true);
        x.lose(2);
        Edges.due("quartet of one that is gone", x.quartet(0, 1, 2, 3, 0), -1);
        Edges.due("quartet(0, 1, 4, 3, 1)", x.quartet(0, 1, 4, 3, 1) > 0, true);
    }

    private static void span() {
        Edges.sentence("SPAN (0 of one, of none): the least number of MARKS that differ, together, along a tree of TRUNKS that joins "
            + "all");
        Edges.due("of none", new TrunkLitters().span(), 0);
        Edges.due("of none in ROOMS", Edges.told(NONE_THERE).span(), 0);
        Edges.due("of one", Edges.told("9", "1/a/63", "").span(), 0);
        Edges.due("of two alike", Edges.told("9", "1/a/63 1/a/63", "").span(), 0);
        Edges.due("of two", Edges.told("9", "1/a/63 1/a/0", "").span(), 6);
        Edges.due("of two in two ROOMS", Edges.told("9 9", "1/a/1 1/b/0", "").span(), 1);
        Edges.due("of three in a row", Edges.told("9", "1/a/0 1/a/63 1/a/7", "").span(), 6);
        Edges.due("of a star", Edges.told("9", "1/a/1 1/a/2 1/a/4 1/a/8 1/a/0", "").span(), 4);
        Edges.due("of the same without its middle", Edges.told("9", "1/a/1 1/a/2 1/a/4 1/a/8", "").span(), 6);
        // two that are near each other, far from two others: joined once
        Edges.due("of two and two", Edges.told("9", "1/a/0 1/a/63 1/a/1 1/a/62", "").span(), 1 + 1 + 5);
        Edges.due("of two and two near", Edges.told("9", "1/a/0 1/a/60 1/a/1 1/a/61", "").span(), 1 + 1 + 4);
        TrunkLitters x = Edges.told("9", "1/a/0 1/a/63 1/a/7", "");
        x.lose(2);
        Edges.due("without one that is gone", x.span(), 6);
        x.lose(0);
        Edges.due("of the last one", x.span(), 0);
        x.lose(1);
        Edges.due("of none", x.span(), 0);
    }

    /** 0 and 1 bring forth 2 (carried to b), then 3 (carried to b), then 4; 3 and 2 bring forth 5 with 4, 5 stays. */
    private static TrunkLitters family() {
        TrunkLitters x = Edges.told("90 40", "8/a/42/9 9/a/21/9", "tales 50;brood bulk > 8;");
        x.year();
        x.carry(2, 1);
        x.year();
        x.carry(3, 1);
        for (int i = 0; i < 9; i++) {
            x.tell(2);
            x.tell(3);
        }
        x.year();
        return x;
    }

    private static void line() {
        Edges.sentence("LINE of a TRUNK: its PARENTS, theirs, and so on (those that there are).. as bits; NONE if there is none such.");
        TrunkLitters x = family();
        int[] due = {0, 0, 3, 3, 3, 15};
        for (int t = 0; t < 6; t++) {
            Edges.due("line(" + t + ")", x.line(t), due[t]);
        }
        Edges.never("line(#)", x::line, -1, 6, 7);
        Edges.never("line(#)", x::line, -1, Edges.FAR);
        x.lose(0);
        Edges.due("line(5): one that is gone is none", x.line(5), 2 + 4 + 8);
        Edges.due("line(0): gone", x.line(0), -1);
        x.lose(3);
        Edges.due("line(5): by 2 alone", x.line(5), 2 + 4);
        x.lose(2);
        Edges.due("line(5): those beyond are none of its", x.line(5), 0);
        Edges.due("line(0) without", new TrunkLitters().line(0), -1);
        x = mixed();
        Edges.due("line(0)", x.line(0), 2 + 4);
        Edges.due("line(3)", x.line(3), 0);
        Edges.due("line(4)", x.line(4), 2 + 4);
        Edges.due("line(5): of 3, which has no PARENTS, and of 0, which has", x.line(5), 1 + 2 + 4 + 8);
    }

    /** 0 is a young one of 1 and 2, and brought forth 5 with 3. */
    private static TrunkLitters mixed() {
        TrunkLitters x = Edges.told("90 40", "5/a/1 5/a/42/9 5/a/21/9 5/b/63/9", "tales 9;brood 1;");
        x.lose(0);
        x.year();
        x.carry(0, 1);
        x.tell(0);
        Edges.due("year(): 4 of 1 and 2, 5 of 3 and 0", x.year(), 16 + 32);
        return x;
    }

    private static void litter() {
        Edges.sentence("Whose PARENT it is, as bits; NONE if there is none such.");
        TrunkLitters x = family();
        int[] due = {4 + 8 + 16, 4 + 8 + 16, 32, 32, 0, 0};
        for (int t = 0; t < 6; t++) {
            Edges.due("litter(" + t + ")", x.litter(t), due[t]);
        }
        Edges.never("litter(#)", x::litter, -1, 6, 7);
        Edges.never("litter(#)", x::litter, -1, Edges.FAR);
        x.lose(4);
        Edges.due("litter(0): one is gone", x.litter(0), 4 + 8);
        x.lose(0);
        Edges.due("litter(0): gone", x.litter(0), -1);
        Edges.due("litter(1): the other one's all the same", x.litter(1), 4 + 8);
        Edges.due("litter(0) without", new TrunkLitters().litter(0), -1);
        x = mixed();
        Edges.due("litter(1): a young one in the first place", x.litter(1), 1 + 16);
        Edges.due("litter(2)", x.litter(2), 1 + 16);
        Edges.due("litter(0)", x.litter(0), 32);
        Edges.due("litter(0) of one that has no PARENTS, nor young", Edges.told("9", "1/a/1", "").litter(0), 0);
    }

    private static void kin() {
        Edges.sentence("the fewest steps up from both, together, to one TRUNK (a step up is from one to a PARENT of it; 0: both are "
            + "one); NONE if there is no such TRUNK, or one can't be.");
        TrunkLitters x = family();
        int[][] due = {{0, -1, 1, 1, 1, 2}, {-1, 0, 1, 1, 1, 2}, {1, 1, 0, 2, 2, 1}, {1, 1, 2, 0, 2, 1}, {1, 1, 2, 2, 0, 3},
            {2, 2, 1, 1, 3, 0}};
        for (int t = 0; t < 6; t++) {
            for (int o = 0; o < 6; o++) {
                Edges.due("kin(" + t + ", " + o + ")", x.kin(t, o), due[t][o]);
            }
        }
        Edges.never("kin(0, #)", o -> x.kin(0, o), -1, 6, 7);
        Edges.never("kin(#, #)", o -> x.kin(o, o), -1, 6, 7);
        Edges.never("kin(#, 0)", t -> x.kin(t, 0), -1, Edges.FAR);
        Edges.never("kin(0, #)", o -> x.kin(0, o), -1, Edges.FAR);
        Edges.never("kin(#, #)", o -> x.kin(o, o), -1, Edges.FAR);
        x.lose(0);
        Edges.due("kin(4, 5) by the other one", x.kin(4, 5), 3);
        x.lose(1);
        Edges.due("kin(4, 5): nobody above both", x.kin(4, 5), -1);
        Edges.due("kin(2, 3)", x.kin(2, 3), -1);
        Edges.due("kin(2, 5)", x.kin(2, 5), 1);
        Edges.due("kin(5, 5)", x.kin(5, 5), 0);
        x.lose(5);
        Edges.due("kin(5, 5): gone", x.kin(5, 5), -1);
        TrunkLitters y = mixed();
        Edges.due("kin(1, 5)", y.kin(1, 5), 2);
        Edges.due("kin(4, 5)", y.kin(4, 5), 3);
        Edges.due("kin(3, 4)", y.kin(3, 4), -1);
    }

    private static void kinOfMany() {
        Edges.sentence("the fewest steps up from both, together, to one TRUNK");
        // a young one with 1, and so on: as far up as there can be in eight places
        TrunkLitters x = Edges.nursery("1/a/0 1/a/63");
        for (int t = 2; t < 8; t++) {
            Edges.due("young one of " + (t == 2 ? 0 : t - 1) + " and 1", Edges.young(x, t == 2 ? 0 : t - 1, 1), t);
        }
        for (int t = 2; t < 8; t++) {
            Edges.due("kin(" + t + ", 0)", x.kin(t, 0), t - 1);
            Edges.due("kin(0, " + t + ")", x.kin(0, t), t - 1);
            Edges.due("kin(" + t + ", 1)", x.kin(t, 1), 1);
            Edges.due("kin(7, " + t + ")", x.kin(7, t), t == 7 ? 0 : Math.min(7 - t, 2));
            Edges.due("line(" + t + ")", x.line(t), (1 << t) - 1);
        }
        Edges.due("litter(1)", x.litter(1), 255 - 3);
        Edges.due("litter(6)", x.litter(6), 128);
        // 0 and 1: 3; 3 and 0: 4; 4 and 2: 5; 5 and 2: 6. From 6 up it is three to 3, and three to 0, too, one above 3
        x = Edges.nursery("1/a/0 1/a/63 1/a/7");
        Edges.due("3", Edges.young(x, 0, 1), 3);
        Edges.due("4", Edges.young(x, 3, 0), 4);
        Edges.due("5", Edges.young(x, 4, 2), 5);
        Edges.due("6", Edges.young(x, 5, 2), 6);
        Edges.due("kin(3, 6)", x.kin(3, 6), 3);
        Edges.due("kin(6, 3)", x.kin(6, 3), 3);
        // 0 and 1: 2; 2 and 1: 3; 3 and 1: 4; 3 and 1: 5; 5 and 0: 6. From 4 it is one to 3 and three to 0; from 6 two and one
        x = Edges.nursery("1/a/0 1/a/63");
        Edges.due("2", Edges.young(x, 0, 1), 2);
        Edges.due("3", Edges.young(x, 2, 1), 3);
        Edges.due("4", Edges.young(x, 3, 1), 4);
        Edges.due("5", Edges.young(x, 3, 1), 5);
        Edges.due("6", Edges.young(x, 5, 0), 6);
        Edges.due("kin(4, 6)", x.kin(4, 6), 3);
        Edges.due("kin(6, 4)", x.kin(6, 4), 3);
        Edges.due("line(6)", x.line(6), 1 + 2 + 4 + 8 + 32);
    }

    /** MARKS 0 in the places 2 to 5, and 63 in 6 and 7, the young ones of 0 and 1, which are gone. */
    private static TrunkLitters lastPlaces() {
        TrunkLitters x = Edges.nursery("1/a/63 1/a/63 1/a/0 1/a/0 1/a/0 1/a/0");
        Edges.due("6", Edges.young(x, 0, 1), 6);
        Edges.due("7", Edges.young(x, 0, 1), 7);
        return x;
    }

    private static void eightSeen() {
        Edges.sentence("There are eight places for TRUNKS (0 .. 7 ..)");
        TrunkLitters x = lastPlaces();
        Edges.due("about(0)", x.about(0), 8);
        Edges.due("about(2)", x.about(2), 255);
        Edges.trunk(x, 6, 1, 0, 63, 0, 1, 0, 1);
        Edges.trunk(x, 7, 1, 0, 63, 0, 0, 0, 1);
        Edges.due("need(1)", x.need(1), 8);
        Edges.due("odd()", x.odd(), 0);
        Edges.due("litter(0)", x.litter(0), 64 + 128);
        x.lose(0);
        x.lose(1);
        Edges.due("alive(0)", x.alive(0), 255 - 3);
        Edges.due("pining()", x.pining(), 4 + 8 + 16 + 32 + 64);
        Edges.due("room(0, 2)", x.room(0, 2), 255 - 3);
        Edges.due("room(0, 1)", x.room(0, 1), 99 - 6);
        Edges.due("bearers(5)", x.bearers(5), 2);
        Edges.due("span()", x.span(), 6);
        Edges.due("like(6)", x.like(6), 7);
        Edges.due("like(7)", x.like(7), 6);
        Edges.due("alike(6, 7)", x.alike(6, 7), 6);
        Edges.due("odd(): 18 and 6", x.odd(), 6);
        Edges.due("sires(6, 0)", x.sires(6, 0), 2);
        Edges.due("sires(6, 1)", x.sires(6, 1), 7);
        Edges.due("sires(6, 2)", x.sires(6, 2), 0);
        Edges.due("sires(7, 1)", x.sires(7, 1), 6);
        Edges.due("quartet(4, 5, 6, 7, 0)", x.quartet(4, 5, 6, 7, 0), 0);
        Edges.due("quartet(7, 4, 6, 5, 0)", x.quartet(7, 4, 6, 5, 0), 1);
        Edges.due("quartet(4, 5, 6, 7, 1)", x.quartet(4, 5, 6, 7, 1), 6);
        Edges.due("will(7, 0, 1)", x.will(7, 0, 1), 63);
        Edges.due("gone(7)", x.gone(7), 9);
        Edges.due("gone(6)", x.gone(6), 8);
        Edges.due("fading(8): 7 is there", x.fading(8), 0);
        Edges.due("fading(9)", x.fading(9), 63);
        x.lose(6);
        Edges.due("odd(): 7 alone", x.odd(), 7);
        Edges.due("span() by 7 alone", x.span(), 6);
        Edges.due("bearers(5)", x.bearers(5), 1);
        Edges.due("like(7)", x.like(7), 2);
        Edges.due("need(1)", x.need(1), 5);
        Edges.due("lose(7)", x.lose(7), 1);
        Edges.due("about(2)", x.about(2), 4 + 8 + 16 + 32);
        // what was there in the last places is there again, all of it
        Edges.due("undo()", x.undo(), true);
        Edges.trunk(x, 7, 1, 0, 63, 0, 0, -1, -1);
        x.undo();
        x.undo();
        x.undo();
        x.tell(7);
        x.tell(6);
        x.tell(6);
        x.carry(7, 1);
        x.image(1);
        x.lose(6);
        x.lose(7);
        x.undo();
        x.undo();
        Edges.trunk(x, 6, 1, 0, 63, 2, 1, 0, 1);
        Edges.trunk(x, 7, 1, 1, 63, 1, 0, 0, 1);
        x.lose(6);
        x.lose(7);
        Edges.due("back(1)", x.back(1), 4 - 2);
        Edges.trunk(x, 6, 1, 0, 63, 2, 1, 0, 1);
        Edges.trunk(x, 7, 1, 1, 63, 1, 0, 0, 1);
        Edges.tell(x, Edges.text("9", "1/a/1 1/a/1", ""));
        Edges.due("about(2): told anew", x.about(2), 3);
        Edges.due("trunk(7, 0)", x.trunk(7, 0), -2);
    }

    private static void eightAlike() {
        Edges.sentence("There are eight places for TRUNKS (0 .. 7 ..)");
        Edges.due("sires(0, 0): of 4 and 5", Edges.told("9", "1/a/63 1/a/0 1/a/0 1/a/0 1/a/7 1/a/56", "").sires(0, 0), 4);
        // 6 of 1 and 2, 7 of 3 and 4; by these two alone 0 has all its MARKS
        TrunkLitters x = Edges.nursery("1/a/63 1/a/7 1/a/7 1/a/56 1/a/56 1/a/0");
        Edges.due("6", Edges.young(x, 1, 2), 6);
        Edges.due("7", Edges.young(x, 3, 4), 7);
        for (int t = 1; t < 5; t++) {
            x.lose(t);
        }
        Edges.due("trunk(6, 2)", x.trunk(6, 2), 7);
        Edges.due("trunk(7, 2)", x.trunk(7, 2), 56);
        Edges.due("sires(0, 0)", x.sires(0, 0), 6);
        Edges.due("sires(0, 1)", x.sires(0, 1), 7);
        Edges.due("sires(0, 2)", x.sires(0, 2), 0);
        x.lose(0);
        Edges.due("odd(): 5 shares three with each, 6 and 7 none with each other", x.odd(), 6);
    }

    private static void eightStowed() {
        Edges.sentence("There are eight places for TRUNKS (0 .. 7 ..)");
        // the last two, told a tale, are the COUPLE of the next YEAR, and the only ones that grow
        TrunkLitters x = lastPlaces();
        x.lose(0);
        x.tell(6);
        x.tell(7);
        Edges.due("year(): of 6 and 7", x.year(), 1);
        Edges.trunk(x, 6, 2, 0, 63, 0, 0, -1, 1);
        Edges.trunk(x, 7, 2, 0, 63, 0, 0, -1, 1);
        Edges.trunk(x, 0, 1, 0, 63, 0, 0, 6, 7);
        Edges.due("couple(0)", x.couple(0), 6 * 8 + 7);
        Edges.due("brood(6, 7)", x.brood(6, 7), 1);
        Edges.due("litter(6)", x.litter(6), 1);
        Edges.due("litter(7)", x.litter(7), 1);
        Edges.due("line(0)", x.line(0), 2 + 64 + 128);
        Edges.due("kin(0, 7)", x.kin(0, 7), 1);
        Edges.due("ripe(): no place", x.ripe(), 0);
        x.lose(2);
        Edges.due("ripe()", x.ripe(), 1);
        // the COUPLE of 0 and 7: 1 and 4 are told no tale, so that 7 alone is told with another one of a lower number
        x = lastPlaces();
        x.lose(3);
        x.tell(2);
        x.tell(7);
        x.tell(7);
        Edges.due("year(): of 2 and 7", x.year(), 8);
        Edges.trunk(x, 3, 1, 0, x.trunk(3, 2), 0, 0, 2, 7);
        x.lose(4);
        Edges.due("couple(0): 3 is less", x.couple(0), 2 * 8 + 7);
        Edges.due("ripe()", x.ripe(), 1);
        // MARKS 0 and the last places are stowed like all others
        x = Edges.told("9 5", "1/a/0/9 1/a/0/9 1/a/0/9 1/a/0/9 1/a/0/9 1/a/0/9", "brood 1;");
        Edges.due("pack() of MARKS 0", x.pack(), 1);
        Edges.lie(x, 0, 0, 0, 0, 0, 0, -1, -1);
        Edges.due("need(10) of MARKS 0", x.need(10), 6);
        x = lastPlaces();
        for (int t = 0; t < 6; t++) {
            x.lose(t);
        }
        Edges.due("fill(0, 1)", x.fill(0, 1), 64 + 128);
        Edges.due("best(7, 0): of like ones the least", x.best(7, 0), 0);
        Edges.due("rivals(6, 7)", x.rivals(6, 7), 2);
        Edges.lie(x, 0, 1);
        x.tell(6);
        x.tell(7);
        x.carry(6, 1);
        Edges.due("best(7, 0): to 6, with which it brings forth", x.best(7, 0), 1);
        Edges.due("best(7, 1)", x.best(7, 1), 3);
        x.undo();
        x.carry(7, 1);
        Edges.due("best(7, 0)", x.best(7, 0), 0);
        Edges.due("best(7, 1)", x.best(7, 1), 3);
        Edges.due("best(6, 0)", x.best(6, 0), 1);
        // those in the last places are of those that are not all in one ROOM
        x = Edges.told("20 5 10", "2/a/0/9 2/a/0/9 2/a/0/9 2/a/0/9 1/b/0/9 1/b/0/9", "brood 1;");
        x.year();
        x.year();
        int[] bulks = {4, 4, 4, 4, 2, 2, 1, 1};
        for (int t = 0; t < 8; t++) {
            Edges.due("trunk(" + t + ", 0)", x.trunk(t, 0), bulks[t]);
        }
        Edges.due("pack(): 22 in 20 and 10", x.pack(), 2);
        Edges.lie(x, 0, 0, 0, 0, 0, 0, 1, 1);
        Edges.due("fill(0, 1)", x.fill(0, 1), 1 + 2 + 4 + 8 + 16 + 32);
    }

    private static void need() {
        Edges.sentence("how many tales must be told now at the least (as if there were enough, and a TRUNK could have any number) so "
            + "that none of those that there are now would PINE in any of these YEARS (n 0 .. 30); NONE for another n");
        TrunkLitters x = Edges.told("30", "1/a/1/9 1/a/1 1/a/1/4", "tales 0;");
        int[][] due = {{0, 0}, {1, 1}, {3, 3}, {4, 4}, {5, 6}, {9, 14}, {10, 17}, {30, 77}};
        for (int[] d : due) {
            Edges.due("need(" + d[0] + ")", x.need(d[0]), d[1]);
        }
        years("need", x::need);
        years("need without TRUNKS", new TrunkLitters()::need);
        Edges.due("need(30) without", new TrunkLitters().need(30), 0);
        Edges.due("need(1) of enough", Edges.told("9", "1/a/1/1", "").need(1), 0);
        Edges.due("need(2) of one less", Edges.told("9", "1/a/1/1", "").need(2), 1);
        TrunkLitters y = Edges.told("9", "1/a/1/1 1/a/1", "pines 9;");
        y.year();
        Edges.due("need(0): it PINES already", y.need(0), 0);
        Edges.due("need(1): one for each", y.need(1), 2);
        y.lose(1);
        Edges.due("need(1) without one", y.need(1), 1);
        // young ones to come are none of those that there are now
        Edges.due("need(5)", Edges.told("90", "5/a/1/9 5/a/1/9", "brood 1;").need(5), 0);
    }

    private static void bestMost() {
        Edges.sentence("into which it should be carried now so that most TRUNKS are in the HOUSE behind 5 YEARS; of like ones the "
            + "least");
        TrunkLitters x = Edges.told("40 80 3", "8/b/42/9 9/a/21/9", "brood many < 3;");
        Edges.due("best(1, 0): to its like", x.best(1, 0), 1);
        Edges.due("best(1, 1)", x.best(1, 1), 3);
        Edges.due("best(0, 0): r is less", x.best(0, 0), 0);
        Edges.due("best(0, 1)", x.best(0, 1), 3);
        // all ROOMS alike: the least one, not its own
        x = Edges.told("40 40 40", "8/c/42/9", "");
        Edges.due("best(0, 0) of like ones", x.best(0, 0), 0);
        Edges.due("best(0, 1) of like ones", x.best(0, 1), 1);
        // behind 5 YEARS: told 5 pines not yet, told 4 is gone in the fifth
        Edges.due("told 5", Edges.told("40", "8/a/42/5", "pines 1;").best(0, 1), 1);
        Edges.due("told 4", Edges.told("40", "8/a/42/4", "pines 1;").best(0, 1), 0);
        Edges.due("told 4, gone: its ROOM all the same", Edges.told("40", "8/a/42/4", "pines 1;").best(0, 0), 0);
        // a young one that comes in the fifth YEAR counts, one that comes in the sixth does not
        Edges.due("year > 3", Edges.told("90", "8/a/42/9 8/a/42/9", "brood year > 3;").best(0, 1), 3);
        Edges.due("year > 4", Edges.told("90", "8/a/42/9 8/a/42/9", "brood year > 4;").best(0, 1), 2);
        // carried, not copied: what is LEFT in its own ROOM grows
        x = Edges.told("16 9", "8/a/42/9 8/a/21/9", "brood 1;");
        Edges.due("best(0, 0)", x.best(0, 0), 0);
        Edges.due("best(0, 1)", x.best(0, 1), 2);
        Edges.due("trunk(0, 1): nothing is done", x.trunk(0, 1), 0);
    }

    private static void bestRooms() {
        Edges.sentence("the ROOM (its own, or one in which so much is LEFT)");
        // a lesser ROOM of just so much, and of one less
        Edges.due("8 for 8", Edges.told("8 40", "8/b/1/9", "").best(0, 0), 0);
        Edges.due("7 for 8", Edges.told("7 40", "8/b/1/9", "").best(0, 0), 1);
        Edges.due("8 LEFT of 11", Edges.told("11 40", "3/a/1/9 8/b/1/9", "brood 0;").best(1, 0), 0);
        Edges.due("7 LEFT of 10", Edges.told("10 40", "3/a/1/9 8/b/1/9", "brood 0;").best(1, 0), 1);
        Edges.due("its own, full", Edges.told("8", "8/a/1/9", "").best(0, 0), 0);
        Edges.due("its own, the last and full", Edges.told("1 2 3 8", "8/d/1/9", "").best(0, 0), 3);
    }

    private static void bestNone() {
        Edges.sentence("BEST what 0: the ROOM, 1: how many; NONE if there is none such, or for another what.");
        TrunkLitters x = Edges.told(FOUR);
        Edges.never("best(#, 0)", t -> x.best(t, 0), -1, 4, 5, 6, 7);
        Edges.never("best(#, 1)", t -> x.best(t, 1), -1, Edges.FAR);
        Edges.never("best(0, #)", what -> x.best(0, what), -1, 2, 3);
        Edges.never("best(0, #)", what -> x.best(0, what), -1, Edges.FAR);
        x.lose(0);
        Edges.due("best(0, 0): gone", x.best(0, 0), -1);
        Edges.due("best(0, 1): gone", x.best(0, 1), -1);
    }

    private static void rivalsRests() {
        Edges.sentence("at RESTS neither, the other one's choosing so, would have more by another");
        // one ROOM: both there, 0 LEFT
        TrunkLitters x = Edges.told("9", "5/a/1 4/a/1", "");
        Edges.due("rivals(0, 1) of one ROOM", x.rivals(0, 1), 1);
        Edges.lie(x, 0, 0);
        // alone 5 of 9 leaves 4, both in b leave 20 - 5 - 4 = 11: both there
        x = Edges.told("9 20", "5/a/1 4/a/1", "");
        Edges.due("rivals(0, 1)", x.rivals(0, 1), 1);
        Edges.lie(x, 1, 1);
        // just as much by another is no more: alone 13 - 5 = 8 and 13 - 4 = 9; beside each other 17 - 9 = 8; alone there 12, 13
        x = Edges.told("13 17", "5/a/1 4/b/1", "");
        Edges.due("rivals(0, 1): 8 and 8", x.rivals(0, 1), 2);
        Edges.lie(x, 0, 1);
        // the second one would have 9 in a, and 8 beside the first one: so both in b is none; both ways round are
        x = Edges.told("12 17", "5/a/1 4/b/1", "");
        Edges.due("rivals(0, 1): 8 and 8, 7 alone", x.rivals(0, 1), 2);
        Edges.lie(x, 1, 0);
        // two alike, each alone: two RESTS
        x = Edges.told("9 9", "8/a/1 7/b/1", "");
        Edges.due("rivals(0, 1)", x.rivals(0, 1), 2);
        Edges.lie(x, 0, 1);
        Edges.due("rivals(1, 0)", x.rivals(1, 0), 2);
        Edges.lie(x, 0, 1);
        // four alike: each two that are not one, 12 of 16
        x = Edges.told("9 9 9 9", "8/a/1 7/b/1", "");
        Edges.due("rivals(0, 1) of four", x.rivals(0, 1), 12);
        Edges.lie(x, 0, 1);
        // three alike and 20 of them: alone 15, beside the other one 10
        x = Edges.told("20 20 20", "5/a/1 5/a/1", "");
        Edges.due("rivals(0, 1) of three", x.rivals(0, 1), 6);
        Edges.lie(x, 0, 1);
        // a third one stays where it is
        x = Edges.told("20 20", "5/b/1 5/b/1 12/a/1", "");
        Edges.due("rivals(0, 1): 3 alone, 10 beside", x.rivals(0, 1), 1);
        Edges.lie(x, 1, 1);
    }

    private static void rivalsTooFull() {
        Edges.sentence("if both choose one that does not hold both, both have -1");
        // 9 holds both of 5 and 4 just so: 0; the other ROOM holds one alone, with 0 LEFT
        TrunkLitters x = Edges.told("9 4", "5/a/1 4/b/1", "");
        Edges.due("rivals(0, 1): 0 beside, 0 alone", x.rivals(0, 1), 2);
        Edges.lie(x, 0, 0);
        // 8 does not: -1, so that the lesser one would have more by the other ROOM
        x = Edges.told("8 4", "5/a/1 4/b/1", "");
        Edges.due("rivals(0, 1): -1 beside, 0 alone", x.rivals(0, 1), 1);
        Edges.lie(x, 0, 1);
        Edges.due("rivals(1, 0)", x.rivals(1, 0), 1);
        Edges.lie(x, 1, 0);
        // -1, not more below: 20 - 18 - 17 is no worse than 34 - 35
        x = Edges.told("20 20", "18/a/1 17/b/1", "");
        Edges.due("rivals(0, 1)", x.rivals(0, 1), 2);
        Edges.lie(x, 0, 1);
    }

    private static void rivalsLies() {
        Edges.sentence("The ROOMS of the first of these lie there then (the first one's, the other one's; of like ones the least "
            + "numbers; behind 0, NONE: nothing).");
        TrunkLitters x = Edges.told("12 17", "5/a/1 4/b/1", "");
        x.rivals(0, 1);
        Edges.lie(x, 1, 0);
        x.rivals(1, 0);
        Edges.lie(x, 0, 1);
        for (int t : new int[] {1, 2, 7, 8, -1, 32, Integer.MIN_VALUE, Integer.MAX_VALUE}) {
            x.pack();
            Edges.due("rivals(1, " + t + ")", x.rivals(1, t), -1);
            Edges.lie(x);
        }
        x.pack();
        Edges.due("rivals(9, 0)", x.rivals(9, 0), -1);
        Edges.lie(x);
        // one of the two in the ROOM in which most is LEFT, the other one where it is best then: at REST; so there is no 0
    }

    private static void rivalsNone() {
        Edges.sentence("RIVALS: how many RESTS; NONE if both are one, one has no ROOM to choose, or one can't be.");
        TrunkLitters x = Edges.told("20 20", "5/a/1 4/b/1", "");
        Edges.due("rivals(0, 1)", x.rivals(0, 1) > 0, true);
        Edges.due("rivals(0, 0)", x.rivals(0, 0), -1);
        Edges.due("rivals(1, 1)", x.rivals(1, 1), -1);
        Edges.never("rivals(0, #)", o -> x.rivals(0, o), -1, 2, 3, 4, 5, 6, 7);
        Edges.never("rivals(#, 0)", o -> x.rivals(o, 0), -1, 2, 3, 4, 5, 6, 7);
        Edges.never("rivals(0, #)", o -> x.rivals(0, o), -1, Edges.FAR);
        Edges.never("rivals(#, 0)", o -> x.rivals(o, 0), -1, Edges.FAR);
        Edges.never("rivals(#, #)", o -> x.rivals(o, o), -1, Edges.FAR);
        x.lose(1);
        Edges.due("rivals(0, 1): gone", x.rivals(0, 1), -1);
        // its own ROOM has room for it at the least
        TrunkLitters full = Edges.told("5 4", "5/a/1 4/b/1", "");
        Edges.due("rivals(0, 1) of full ROOMS", full.rivals(0, 1), 1);
        Edges.lie(full, 0, 1);
        full = Edges.told("4 5", "4/a/1 5/b/1", "");
        Edges.due("rivals(0, 1) of full ROOMS", full.rivals(0, 1), 1);
        Edges.lie(full, 0, 1);
        Edges.due("rivals(1, 0) of full ROOMS", full.rivals(1, 0), 1);
        Edges.lie(full, 1, 0);
        Edges.due("rivals(0, 1) without", new TrunkLitters().rivals(0, 1), -1);
    }

    private static void fading() {
        Edges.sentence("FADING of n YEARS: MARKS that some TRUNK has now, none behind these (n 0 .. 30), as bits; NONE for another n.");
        TrunkLitters x = Edges.told("40", "3/a/63 2/a/2/9 2/a/16/3", "pines 1;brood 0;");
        Edges.due("fading(0)", x.fading(0), 0);
        Edges.due("fading(1): 2 and 16 are there", x.fading(1), 63 - 18);
        Edges.due("fading(3)", x.fading(3), 63 - 18);
        Edges.due("fading(4): 2 alone", x.fading(4), 63 - 2);
        Edges.due("fading(9)", x.fading(9), 63 - 2);
        Edges.due("fading(10)", x.fading(10), 63);
        Edges.due("fading(30)", x.fading(30), 63);
        years("fading", x::fading);
        years("fading without TRUNKS", new TrunkLitters()::fading);
        Edges.due("MARKS that none has now", Edges.told("40", "3/a/5", "pines 1;").fading(1), 5);
        Edges.due("none at all", Edges.told("40", "3/a/0", "pines 1;").fading(1), 0);
        // what another one has as well does not fade
        Edges.due("fading(1)", Edges.told("40", "3/a/7 3/a/3/9", "pines 1;").fading(1), 4);
    }

    private static void alike() {
        Edges.sentence("How many of six MARKS two share (both may be one); NONE if one can't be.");
        TrunkLitters x = Edges.told("30 30", "1/a/0 1/a/63 1/b/21 1/b/20", "");
        int[][] due = {{6, 0, 3, 4}, {0, 6, 3, 2}, {3, 3, 6, 5}, {4, 2, 5, 6}};
        for (int t = 0; t < 4; t++) {
            for (int o = 0; o < 4; o++) {
                Edges.due("alike(" + t + ", " + o + ")", x.alike(t, o), due[t][o]);
            }
        }
        Edges.never("alike(0, #)", o -> x.alike(0, o), -1, 4, 5, 6, 7);
        Edges.never("alike(#, #)", o -> x.alike(o, o), -1, 4, 5, 6, 7);
        Edges.never("alike(0, #)", o -> x.alike(0, o), -1, Edges.FAR);
        Edges.never("alike(#, 0)", o -> x.alike(o, 0), -1, Edges.FAR);
        Edges.never("alike(#, #)", o -> x.alike(o, o), -1, Edges.FAR);
        x.lose(0);
        Edges.due("alike(0, 0): gone", x.alike(0, 0), -1);
        Edges.due("alike(1, 0): gone", x.alike(1, 0), -1);
    }

    private static void like() {
        Edges.sentence("The one that shares most MARKS with a TRUNK; of like ones the first; NONE if there is no other one, or no "
            + "such TRUNK.");
        TrunkLitters x = Edges.told("30 30", "1/a/7 1/a/3 1/b/5 1/b/56", "");
        int[] due = {1, 0, 0, 1};
        for (int t = 0; t < 4; t++) {
            Edges.due("like(" + t + ")", x.like(t), due[t]);
        }
        Edges.never("like(#)", x::like, -1, 4, 5, 6, 7);
        Edges.never("like(#)", x::like, -1, Edges.FAR);
        Edges.due("like(0): none shared, yet an other one", Edges.told("9", "1/a/0 1/a/63", "").like(0), 1);
        Edges.due("like(1): none shared", Edges.told("9", "1/a/0 1/a/63", "").like(1), 0);
        Edges.due("like(0) of one", Edges.told("9", "1/a/0", "").like(0), -1);
        Edges.due("like(0) without", new TrunkLitters().like(0), -1);
        Edges.due("like(0): the last one", Edges.told("9", "1/a/9 1/a/1 1/a/9", "").like(0), 2);
        x.lose(1);
        Edges.due("like(0): not the one that is gone", x.like(0), 2);
        Edges.due("like(1): gone", x.like(1), -1);
        // sharing none with one is not less than sharing with a place that is free
        TrunkLitters y = Edges.told("9", "1/a/0 1/a/0 1/a/63", "");
        y.lose(0);
        Edges.due("like(2)", y.like(2), 1);
    }

    private static void odd() {
        Edges.sentence("The TRUNK that shares the fewest with all others, together; of like ones the first; NONE without TRUNKS.");
        Edges.due("without", new TrunkLitters().odd(), -1);
        Edges.due("without in ROOMS", Edges.told(NONE_THERE).odd(), -1);
        Edges.due("of one", Edges.told("9", "1/a/63", "").odd(), 0);
        Edges.due("of two", Edges.told("9", "1/a/63 1/a/0", "").odd(), 0);
        Edges.due("of like ones", Edges.told("9", "1/a/9 1/a/9 1/a/9", "").odd(), 0);
        Edges.due("the last one", Edges.told("9", "1/a/9 1/a/9 1/a/8", "").odd(), 2);
        TrunkLitters eight = Edges.told("99", "1/a/9/9 1/a/9/9 1/a/9/9 1/a/9/9 1/a/9/9 1/a/9/9", "brood 1;");
        eight.year();
        eight.year();
        Edges.due("about(0)", eight.about(0), 8);
        Edges.due("of eight like ones", eight.odd(), 0);
        // 0 and 1 share 0 with one and 6 with none: sums 5 + 1, 1 + 2, 5 + 2
        Edges.due("sums of 6, 3, 7", Edges.told("9", "1/a/0 1/a/31 1/a/1", "").odd(), 1);
        TrunkLitters x = Edges.told("9", "1/a/9 1/a/9 1/a/54 1/a/9", "");
        Edges.due("odd()", x.odd(), 2);
        x.lose(2);
        Edges.due("odd() without it", x.odd(), 0);
        x.lose(0);
        Edges.due("odd(): the first that there is", x.odd(), 1);
        x.lose(1);
        Edges.due("odd(): the only one", x.odd(), 3);
        x.lose(3);
        Edges.due("odd(): none", x.odd(), -1);
    }

    private static void bearers() {
        Edges.sentence("How many TRUNKS have a MARK (0 .. 5); NONE for another one.");
        TrunkLitters x = Edges.told("30 30", "1/a/1 1/a/33 1/b/32 1/b/63", "");
        int[] due = {3, 1, 1, 1, 1, 3};
        for (int k = 0; k < 6; k++) {
            Edges.due("bearers(" + k + ")", x.bearers(k), due[k]);
        }
        Edges.due("bearers(6)", x.bearers(6), -1);
        Edges.never("bearers(#)", x::bearers, -1, Edges.FAR);
        x.lose(3);
        Edges.due("bearers(1): none", x.bearers(1), 0);
        Edges.due("bearers(0) without", new TrunkLitters().bearers(0), 0);
        Edges.due("bearers(6) without", new TrunkLitters().bearers(6), -1);
    }

    private static void roomiest() {
        Edges.sentence("The ROOM in which most is LEFT; of like ones the first; NONE without ROOMS.");
        Edges.due("without", new TrunkLitters().roomiest(), -1);
        Edges.due("one, nothing LEFT", Edges.told("0", "", "").roomiest(), 0);
        Edges.due("of like ones", Edges.told("9 9 9", "", "").roomiest(), 0);
        Edges.due("the last one", Edges.told("9 9 9 10", "", "").roomiest(), 3);
        Edges.due("LEFT, not held", Edges.told("20 9", "11/a/1", "").roomiest(), 0);
        Edges.due("LEFT, not held", Edges.told("20 9", "12/a/1", "").roomiest(), 1);
        Edges.due("all full", Edges.told("5 6", "5/a/1 6/b/1", "").roomiest(), 0);
    }

    private static void ripe() {
        Edges.sentence("ROOMS whose COUPLE would bring forth now (their BROOD above 0, room for it, a place free, each ROOM by itself), "
            + "as bits.");
        Edges.due("BROOD 1", Edges.told("60", "4/a/1 4/a/1", "brood 1;").ripe(), 1);
        Edges.due("BROOD 0", Edges.told("60", "4/a/1 4/a/1", "brood 0;").ripe(), 0);
        Edges.due("BROOD -1", Edges.told("60", "4/a/1 4/a/1", "brood 0-1;").ripe(), 0);
        Edges.due("just room", Edges.told("10", "4/a/1 4/a/1", "brood 1;").ripe(), 1);
        Edges.due("no room", Edges.told("9", "4/a/1 4/a/1", "brood 1;").ripe(), 0);
        Edges.due("no COUPLE", Edges.told("60", "4/a/1", "brood 1;").ripe(), 0);
        Edges.due("without ROOMS", new TrunkLitters().ripe(), 0);
        Edges.due("without TRUNKS", Edges.told(NONE_THERE).ripe(), 0);
        Edges.due("the last ROOM", Edges.told("9 9 9 60", "4/d/1 4/d/1", "brood 1;").ripe(), 8);
        Edges.due("two of three", Edges.told("60 60 60", "4/a/1 4/a/1 4/b/1 4/c/1 4/c/1", "brood 1;").ripe(), 5);
        // as it is now: who would listen or fall apart in the next YEAR does not matter
        TrunkLitters x = Edges.told("60 60", "4/a/1/9 4/a/1/9 4/b/1/9 4/b/1", "brood 1;pines 1;");
        Edges.due("ripe()", x.ripe(), 3);
        x = Edges.told("60", "4/a/1/9 4/a/1", "brood 1;pines 9;");
        x.year();
        Edges.due("one PINES", x.ripe(), 0);
        // a place: seven, eight
        x = Edges.told("90 60", "4/a/1/9 4/a/1/9 4/b/1/9 4/b/1/9 1/a/1/9 1/a/1/9", "brood many = 6;pines 9;");
        x.year();
        Edges.due("about(0)", x.about(0), 7);
        x = Edges.told("90 60", "4/a/1/9 4/a/1/9 4/b/1/9 4/b/1/9 1/a/1/9 1/a/1/9", "brood many;pines 9;");
        x.year();
        Edges.due("about(0)", x.about(0), 8);
        Edges.due("no place is free", x.ripe(), 0);
        x.lose(7);
        Edges.due("one place for two ROOMS, each by itself", x.ripe(), 3);
    }

    private static void law() {
        Edges.sentence("How many TRUNKS there are behind n YEARS (0 .. 30), if pines told p (1 .. 9); NONE if one can't be.");
        TrunkLitters x = Edges.told("40", "3/a/1 3/a/1/1 3/a/1/2", "brood 0;pines 2;");
        for (int p = 1; p <= 9; p++) {
            for (int n = 0; n <= 12; n++) {
                int due = (n < p ? 1 : 0) + (n < p + 1 ? 1 : 0) + (n < p + 2 ? 1 : 0);
                Edges.due("law(" + p + ", " + n + ")", x.law(p, n), due);
            }
            int pines = p;
            years("law of " + p, n -> x.law(pines, n));
        }
        for (int p : new int[] {0, 10, -1, 11, 32, Integer.MIN_VALUE, Integer.MAX_VALUE}) {
            Edges.due("law(" + p + ", 0)", x.law(p, 0), -1);
            Edges.due("law(" + p + ", 5)", x.law(p, 5), -1);
        }
        Edges.due("about(13): pines stays", x.about(13), 2);
        Edges.due("alive(2): pines stays", x.alive(2), 6);
        // it PINES longer than p already: behind no YEAR it is there, behind one it is gone
        TrunkLitters y = Edges.told("40", "3/a/1", "pines 9;");
        for (int i = 0; i < 4; i++) {
            y.year();
        }
        Edges.due("law(3, 0)", y.law(3, 0), 1);
        Edges.due("law(3, 1)", y.law(3, 1), 0);
        Edges.due("law(5, 1)", y.law(5, 1), 0);
        Edges.due("law(6, 1)", y.law(6, 1), 1);
        Edges.due("law(6, 2)", y.law(6, 2), 0);
    }

    private static void pining() {
        Edges.sentence("TRUNKS that PINE, as bits.");
        Edges.due("without", new TrunkLitters().pining(), 0);
        TrunkLitters x = Edges.told("90", "3/a/1 3/a/1/1 3/a/1 3/a/1 3/a/1 3/a/1/9", "brood 1;pines 9;");
        Edges.due("none yet", x.pining(), 0);
        x.year();
        Edges.due("behind one", x.pining(), 1 + 4 + 8 + 16);
        x.year();
        Edges.due("behind two: the young one, too", x.pining(), 1 + 2 + 4 + 8 + 16 + 64);
        x.lose(0);
        Edges.due("without one", x.pining(), 2 + 4 + 8 + 16 + 64);
    }

    private static void gone() {
        Edges.sentence("Behind how many YEARS (1 .. 30) a TRUNK that there is now is gone first (whoever comes to its place); NONE if "
            + "not in these, or there is none such.");
        TrunkLitters x = Edges.told(FOUR);
        int[] due = {4, 2, 3, 2};
        for (int t = 0; t < 4; t++) {
            Edges.due("gone(" + t + ")", x.gone(t), due[t]);
        }
        Edges.never("gone(#)", x::gone, -1, 4, 5, 6, 7);
        Edges.never("gone(#)", x::gone, -1, Edges.FAR);
        Edges.due("gone in the first", Edges.told("9", "1/a/1", "pines 1;").gone(0), 1);
        Edges.due("gone in the 18th, the last that can be of one told nine", Edges.told("9", "1/a/1/9", "pines 9;").gone(0), 18);
        // 9 told at most and 9 to pine at most: nobody lasts 30 without being told anew
        TrunkLitters y = Edges.told("60", "8/a/63/9 8/a/0 7/a/5/9", "pines 1;brood 1;");
        Edges.due("alive(1): one came there", y.alive(1), 7);
        Edges.due("gone(1): whoever comes", y.gone(1), 1);
        y.lose(1);
        Edges.due("gone(1): thrown out", y.gone(1), -1);
    }

    private static void lies() {
        Edges.sentence("The i-th number of what lies there; -2 if there is none such.");
        TrunkLitters x = Edges.told("9 9", "8/a/1 7/b/1", "");
        Edges.lie(x);
        Edges.never("lies(#)", x::lies, -2, Edges.FAR);
        x.pack();
        Edges.lie(x, 0, 1, -1, -1, -1, -1, -1, -1);
        Edges.never("lies(#)", x::lies, -2, Edges.FAR);
        x.rivals(0, 1);
        Edges.lie(x, 0, 1);
        Edges.never("lies(#)", x::lies, -2, 2, 3, 7);
        Edges.never("lies(#)", x::lies, -2, Edges.FAR);
        x.year();
        x.undo();
        x.image(0);
        x.back(0);
        x.alive(9);
        x.fill(0, 0);
        x.fill(5, 5);
        Edges.lie(x, 0, 1);
    }
}
