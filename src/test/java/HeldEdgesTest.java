/** The boundary cases of "Terms" 4 and of promises 40 to 48: what is HELD, asked and sure, images, and all in numbers. */
public final class HeldEdgesTest {
    /** The others of the last one: MARKS 5, 7, 0. */
    private static final String FOUR = Edges.text("40 12", "8/a/5/2 6/a/7 6/a/0/1 5/b/63", "pines 2;tales 3;draw 7;");

    public static void main(String[] args) {
        heldTrunks();
        heldMany();
        heldThirty();
        untell();
        later();
        toldAndUntold();
        atOneTime();
        atLeast();
        asTold();
        fits();
        sure();
        askFewest();
        askNone();
        imageBoxes();
        backBoxes();
        backAll();
        about();
        aboutNumbers();
        Edges.close();
    }

    private static void lived(TrunkLitters x) {
        Texts.house(x, FOUR);
        x.later(3);
        x.held(0, 5, true);
        x.year();
        x.image(0);
        x.tell(0);
        x.later(2);
        x.held(1, 4, false);
        x.untell(0);
        x.year();
        x.undo();
        x.pack();
        Texts.feed(x, "pines 4;draw 5;");
    }

    private static void heldTrunks() {
        Edges.sentence("A HELD (with a TRUNK of those told but the last, by its number as told; ..): its number; NONE, doing nothing, "
            + "if one can't be");
        for (int trunks = 0; trunks <= 6; trunks++) {
            StringBuilder list = new StringBuilder();
            for (int t = 0; t < trunks; t++) {
                list.append(t == 0 ? "" : " ").append("1/a/9");
            }
            TrunkLitters x = Edges.told("99", list.toString(), "");
            int number = 0;
            for (int t = 0; t <= 8; t++) {
                boolean can = t < trunks - 1;
                Edges.due("held(" + t + ") of " + trunks, x.held(t, 3, true), can ? number : -1);
                number += can ? 1 : 0;
            }
            Edges.due("about(8) of " + trunks, x.about(8), Math.max(0, trunks - 1));
        }
        TrunkLitters x = Edges.told(FOUR);
        Edges.never("held(#)", t -> x.held(t, 3, false), -1, Edges.FAR);
        for (int t : new int[] {3, 4, 8, -1, 32, Integer.MIN_VALUE, Integer.MAX_VALUE}) {
            Edges.nothing("held(" + t + ", 0, true)", HeldEdgesTest::lived, o -> o.held(t, 0, true), -1);
        }
        // those that came are not told, and those that are gone are
        TrunkLitters y = Edges.told("60", "5/a/1/9 5/a/1/9", "brood 1;");
        y.year();
        Edges.due("held(1): the last one told", y.held(1, 0, true), -1);
        Edges.due("held(2): a young one", y.held(2, 0, true), -1);
        y.lose(0);
        Edges.due("held(0): gone, but told", y.held(0, 0, true), 0);
    }

    private static void heldMany() {
        Edges.sentence("0 .. 6");
        TrunkLitters x = Edges.told(FOUR);
        int number = 0;
        for (int many = 0; many <= 6; many++) {
            Edges.due("held(0, " + many + ", true)", x.held(0, many, true), number++);
            Edges.due("held(0, " + many + ", false)", x.held(0, many, false), number++);
        }
        Edges.never("held(0, #, true)", many -> x.held(0, many, true), -1, 7);
        Edges.never("held(0, #, false)", many -> x.held(0, many, false), -1, Edges.FAR);
        Edges.due("about(8)", x.about(8), 14);
        for (int many : new int[] {7, 8, -1, Integer.MIN_VALUE, Integer.MAX_VALUE}) {
            Edges.nothing("held(0, " + many + ", false)", HeldEdgesTest::lived, o -> o.held(0, many, false), -1);
        }
    }

    private static void heldThirty() {
        Edges.sentence("HELD, 30 at most; NONE, doing nothing, .. or there are 30");
        TrunkLitters x = Edges.told(FOUR);
        for (int i = 0; i < 30; i++) {
            Edges.due("about(8)", x.about(8), i);
            Edges.due("held " + i, x.held(i % 3, 0, true), i);
        }
        Edges.due("about(8)", x.about(8), 30);
        Edges.due("a 31st", x.held(0, 6, true), -1);
        Edges.due("about(8)", x.about(8), 30);
        Edges.due("fits(0): it does not count", x.fits(0), 64);
        Edges.due("untell(30)", x.untell(30), false);
        Edges.due("untell(29): the last one", x.untell(29), true);
        Edges.due("about(8): it is HELD, UNTOLD", x.about(8), 30);
        Edges.due("a 31st", x.held(0, 6, true), -1);
        Edges.due("untell(29)", x.untell(29), false);
        // the 30th counts
        TrunkLitters y = Edges.told(FOUR);
        for (int i = 0; i < 29; i++) {
            y.held(0, 0, true);
        }
        Edges.due("the 30th", y.held(0, 6, true), 29);
        Edges.due("fits(0)", y.fits(0), 1);
        Edges.nothing("a 31st", o -> {
            Texts.house(o, FOUR);
            o.later(9);
            for (int i = 0; i < 30; i++) {
                o.held(0, 1, true);
            }
        }, o -> o.held(0, 6, true), -1);
        // in the next HOUSE there are none, so 30 more can be
        Edges.tell(y, FOUR);
        for (int i = 0; i < 30; i++) {
            Edges.due("held " + i, y.held(0, 0, true), i);
        }
        Edges.due("a 31st", y.held(0, 0, true), -1);
    }

    private static void untell() {
        Edges.sentence("It is UNTOLD: true; false if it is so already, or there is none such.");
        TrunkLitters x = Edges.told(FOUR);
        Edges.due("untell(0) of none", x.untell(0), false);
        x.held(0, 6, true);
        x.held(1, 0, true);
        Edges.due("untell(2)", x.untell(2), false);
        for (int h : Edges.FAR) {
            Edges.due("untell(" + h + ")", x.untell(h), false);
        }
        Edges.due("fits(0)", x.fits(0), 1);
        Edges.due("untell(1)", x.untell(1), true);
        Edges.due("untell(1) again", x.untell(1), false);
        Edges.due("untell(0)", x.untell(0), true);
        Edges.due("fits(0)", x.fits(0), 64);
        Edges.due("untell(0) again", x.untell(0), false);
        for (int h : new int[] {0, 2, 3, 29, 30, -1, 32, Integer.MIN_VALUE, Integer.MAX_VALUE}) {
            Edges.nothing("untell(" + h + ")", HeldEdgesTest::lived, o -> o.untell(h) ? 1 : 0, 0);
        }
        // UNTOLD once for all: a second time, later, does not put it off
        TrunkLitters y = Edges.told(FOUR);
        y.held(0, 6, true);
        y.later(5);
        y.untell(0);
        y.later(5);
        Edges.due("untell(0) later", y.untell(0), false);
        Edges.due("fits(4)", y.fits(4), 1);
        Edges.due("fits(5)", y.fits(5), 64);
        // a HELD of the HOUSE ahead is none
        Edges.tell(y, FOUR);
        Edges.due("untell(0) in the next HOUSE", y.untell(0), false);
        y.held(0, 6, true);
        Edges.due("fits(10): the next one of that number counts", y.fits(10), 1);
        Edges.due("untell(0)", y.untell(0), true);
    }

    private static void later() {
        Edges.sentence("So much later (0 .. 1000): the TIME; NONE, doing nothing, for another number, or if it would be above "
            + "100,000.");
        TrunkLitters x = new TrunkLitters();
        Edges.due("about(9)", x.about(9), 0);
        Edges.due("later(0)", x.later(0), 0);
        Edges.due("later(1)", x.later(1), 1);
        Edges.due("later(1000)", x.later(1000), 1001);
        Edges.due("later(1001)", x.later(1001), -1);
        Edges.never("later(#)", x::later, -1, Integer.MIN_VALUE, Integer.MIN_VALUE + 1, -100000, -1001, -1, 1001, 1002, 98999,
            100000, 1 << 30, Integer.MAX_VALUE);
        Edges.due("about(9)", x.about(9), 1001);
        for (int i = 2; i <= 99; i++) {
            Edges.due("later(1000)", x.later(1000), 1000 * i + 1);
        }
        Edges.due("later(1000): 100,001", x.later(1000), -1);
        Edges.due("later(999): 100,000", x.later(999), 100000);
        Edges.due("later(1)", x.later(1), -1);
        Edges.due("later(1000)", x.later(1000), -1);
        Edges.due("later(0)", x.later(0), 100000);
        Edges.due("about(9)", x.about(9), 100000);
        for (int by : new int[] {1001, -1, Integer.MIN_VALUE, Integer.MAX_VALUE}) {
            Edges.nothing("later(" + by + ")", HeldEdgesTest::lived, o -> o.later(by), -1);
        }
        Edges.nothing("later(1000) at 99,003", o -> {
            lived(o);
            for (int i = 0; i < 99; i++) {
                o.later(1000);
            }
        }, o -> o.later(1000), -1);
        Edges.sentence("the TIME stays");
        Edges.tell(x, FOUR);
        Edges.due("about(9) in the next HOUSE", x.about(9), 100000);
        Edges.due("later(1)", x.later(1), -1);
        TrunkLitters y = Edges.told(FOUR);
        y.image(0);
        y.later(7);
        y.year();
        y.undo();
        y.back(0);
        Edges.due("about(9) behind undo() and back(0)", y.about(9), 7);
    }

    private static void toldAndUntold() {
        Edges.sentence("As known at k that counts that was TOLD at k or before, not UNTOLD at k or before.");
        TrunkLitters x = Edges.told(FOUR);
        x.later(10);
        x.held(0, 6, true);
        x.later(10);
        x.untell(0);
        x.later(10);
        int[][] due = {{Integer.MIN_VALUE, 64}, {-1, 64}, {0, 64}, {9, 64}, {10, 1}, {11, 1}, {19, 1}, {20, 64}, {21, 64}, {30, 64},
            {31, 64}, {Integer.MAX_VALUE, 64}};
        for (int[] d : due) {
            Edges.due("fits(" + d[0] + ")", x.fits(d[0]), d[1]);
            Edges.due("sure(0, " + d[0] + ")", x.sure(0, d[0]), d[1] == 1 ? 1 : -2);
            Edges.due("ask(1, " + d[0] + ")", x.ask(1, d[0]), d[1] == 1 ? 1 : 20);
        }
        // a second one is TOLD while the first one counts: each by its own TIMES
        x = Edges.told(FOUR);
        x.held(0, 5, true);
        x.later(1);
        x.held(1, 6, true);
        x.later(1);
        x.untell(0);
        x.later(1);
        x.untell(1);
        int[] fits = {7, 1, 1, 64};
        for (int k = 0; k < fits.length; k++) {
            Edges.due("fits(" + k + ")", x.fits(k), fits[k]);
        }
        // the TIME to come: what is TOLD now counts then, too
        x = Edges.told(FOUR);
        x.later(100);
        x.held(0, 6, true);
        Edges.due("fits(99)", x.fits(99), 64);
        Edges.due("fits(100)", x.fits(100), 1);
        Edges.due("fits(MAX)", x.fits(Integer.MAX_VALUE), 1);
        Edges.due("fits(MIN)", x.fits(Integer.MIN_VALUE), 64);
    }

    private static void atOneTime() {
        Edges.sentence("is TOLD at a TIME (0 at first, goes on), UNTOLD at a later one or the same");
        TrunkLitters x = Edges.told(FOUR);
        x.held(0, 6, true);
        Edges.due("fits(0): TOLD", x.fits(0), 1);
        x.untell(0);
        Edges.due("fits(0): UNTOLD at the same", x.fits(0), 64);
        Edges.due("fits(-1)", x.fits(-1), 64);
        Edges.due("fits(1)", x.fits(1), 64);
        x.held(0, 6, true);
        Edges.due("fits(0): TOLD anew at the same", x.fits(0), 1);
        x.later(1);
        x.untell(1);
        Edges.due("fits(0): UNTOLD one later", x.fits(0), 1);
        Edges.due("fits(1)", x.fits(1), 64);
    }

    private static void atLeast() {
        Edges.sentence("that it shared so many (had both, or both had not) at least with another one as told, or did not");
        // of 64 so many share at least n with one: 64, 63, 57, 42, 22, 7, 1
        int[] least = {64, 63, 57, 42, 22, 7, 1};
        for (int t = 0; t < 3; t++) {
            for (int many = 0; many <= 6; many++) {
                TrunkLitters x = Edges.told(FOUR);
                x.held(t, many, true);
                Edges.due("fits(0) with " + t + " at least " + many, x.fits(0), least[many]);
                x = Edges.told(FOUR);
                x.held(t, many, false);
                Edges.due("fits(0) with " + t + " not " + many, x.fits(0), 64 - least[many]);
            }
        }
        // just so many: at least n, and not n + 1
        int[] just = {1, 6, 15, 20, 15, 6, 1};
        for (int many = 0; many <= 5; many++) {
            TrunkLitters x = Edges.told(FOUR);
            x.held(1, many, true);
            x.held(1, many + 1, false);
            Edges.due("fits(0) of just " + many, x.fits(0), just[many]);
        }
    }

    private static void asTold() {
        Edges.sentence("of the last TRUNK as it was told, but for its MARKS, which are not known");
        // told MARKS 63: by them none would share one with 0, but they are not known
        TrunkLitters x = Edges.told(FOUR);
        x.held(2, 6, true);
        Edges.due("fits(0)", x.fits(0), 1);
        Edges.due("sure(0, 0)", x.sure(0, 0), 0);
        Edges.sentence("with another one as told");
        x = Edges.told("60", "8/a/42/9 9/a/21/9 5/a/63/9", "brood 1;draw 7;");
        x.lose(0);
        x.year();
        Edges.due("trunk(0, 2): another one is there", x.trunk(0, 2) == 42, false);
        x.held(0, 6, true);
        for (int k = 0; k < 6; k++) {
            Edges.due("sure(" + k + ", 0)", x.sure(k, 0), 42 >> k & 1);
        }
        x.lose(1);
        x.lose(2);
        Edges.due("fits(0) without those told", x.fits(0), 1);
    }

    private static void fits() {
        Edges.sentence("FITS: how many (0 without TRUNKS told).");
        Edges.due("without", new TrunkLitters().fits(0), 0);
        Edges.due("without in ROOMS", Edges.told("9", "", "").fits(0), 0);
        Edges.due("of one told", Edges.told("9", "1/a/9", "").fits(0), 64);
        TrunkLitters x = Edges.told("9", "1/a/9", "");
        x.lose(0);
        Edges.due("of one told that is gone", x.fits(0), 64);
        Edges.tell(x, "room a holds 9;");
        Edges.due("in the next HOUSE", x.fits(0), 0);
        // none FITS: it shares all with two that differ
        TrunkLitters y = Edges.told(FOUR);
        y.held(0, 6, true);
        y.held(1, 6, true);
        Edges.due("none", y.fits(0), 0);
    }

    private static void sure() {
        Edges.sentence("SURE (a MARK 0 .. 5): 1, 0; -2 if it is not the same in all; NONE if none FITS, or for another one.");
        TrunkLitters x = Edges.told(FOUR);
        for (int k = 0; k < 6; k++) {
            Edges.due("sure(" + k + ", 0) of all", x.sure(k, 0), -2);
        }
        x.held(0, 6, true);
        for (int k = 0; k < 6; k++) {
            Edges.due("sure(" + k + ", 0) of 5", x.sure(k, 0), 5 >> k & 1);
        }
        Edges.due("sure(6, 0)", x.sure(6, 0), -1);
        Edges.never("sure(#, 0)", k -> x.sure(k, 0), -1, Edges.FAR);
        x.held(0, 0, false);
        for (int k = 0; k < 6; k++) {
            Edges.due("sure(" + k + ", 0): none FITS", x.sure(k, 0), -1);
        }
        Edges.due("sure(0, 0) without", new TrunkLitters().sure(0, 0), -1);
        Edges.due("sure(0, 0) without in ROOMS", Edges.told("9", "", "").sure(0, 0), -1);
        Edges.due("sure(0, 0) of one told", Edges.told("9", "1/a/9", "").sure(0, 0), -2);
        // all but one have it: -2; then that one is not, and it is sure. 0 and 7 share bits 3 to 5
        TrunkLitters y = Edges.told("9", "1/a/0 1/a/1 1/a/9", "");
        y.held(0, 5, true);
        y.held(0, 6, false);
        Edges.due("six FIT, of one MARK each", y.fits(0), 6);
        Edges.due("sure(0, 0): 1 alone has it", y.sure(0, 0), -2);
        y.held(1, 5, true);
        Edges.due("one FITS", y.fits(0), 1);
        Edges.due("sure(0, 0)", y.sure(0, 0), 1);
        Edges.due("sure(5, 0)", y.sure(5, 0), 0);
        y = Edges.told("9", "1/a/63 1/a/1 1/a/9", "");
        y.held(0, 5, true);
        y.held(0, 6, false);
        Edges.due("six FIT, each without one MARK", y.fits(0), 6);
        Edges.due("sure(0, 0): 62 alone has it not", y.sure(0, 0), -2);
        // by what it did not share alone: not one with 5 is 58
        y = Edges.told(FOUR);
        y.held(0, 1, false);
        Edges.due("58 FITS", y.fits(0), 1);
        for (int k = 0; k < 6; k++) {
            Edges.due("sure(" + k + ", 0) of 58", y.sure(k, 0), 58 >> k & 1);
        }
        // two FIT: one has it, one has not
        y = Edges.told("9", "1/a/0 1/a/1 1/a/9", "");
        y.held(0, 5, true);
        y.held(1, 5, true);
        Edges.due("0 and 1 FIT", y.fits(0), 2);
        Edges.due("sure(0, 0)", y.sure(0, 0), -2);
        Edges.due("sure(1, 0)", y.sure(1, 0), 0);
    }

    private static void askFewest() {
        Edges.sentence("the other one of which to know how many it shares would leave the fewest of these at the most; of like ones the "
            + "first");
        TrunkLitters x = Edges.told(FOUR);
        Edges.due("ask(0, 0): 20 of 64 share three with each", x.ask(0, 0), 0);
        Edges.due("ask(1, 0)", x.ask(1, 0), 20);
        // just five shared with 5: 4, 7, 1, 13, 21, 37; of 5 all six are left, of 7 five (7 shares all), of 0 four (4 and 1 not)
        x.held(0, 5, true);
        x.held(0, 6, false);
        Edges.due("fits(0)", x.fits(0), 6);
        Edges.due("ask(0, 0): the last of the others", x.ask(0, 0), 2);
        Edges.due("ask(1, 0)", x.ask(1, 0), 4);
        // known ahead of that: as if nothing was
        Edges.due("ask(0, -1)", x.ask(0, -1), 0);
        Edges.due("ask(1, -1)", x.ask(1, -1), 20);
        // one left: each leaves one, the first
        x = Edges.told(FOUR);
        x.held(1, 6, true);
        Edges.due("ask(0, 0) of one", x.ask(0, 0), 0);
        Edges.due("ask(1, 0) of one", x.ask(1, 0), 1);
        // the one left is like the first other one, or shares none with it
        for (int many = 1; many <= 6; many += 5) {
            x = Edges.told(FOUR);
            x.held(0, many, many == 6);
            Edges.due("ask(0, 0) of " + (many == 6 ? 5 : 58), x.ask(0, 0), 0);
            Edges.due("ask(1, 0) of " + (many == 6 ? 5 : 58), x.ask(1, 0), 1);
        }
        // 0 and 7 share alike many with 5 .. : two left, 5 and 6, that 7 and 0 share the same with, and 5 does not
        x = Edges.told("9", "1/a/7 1/a/5 1/a/0 1/a/1", "");
        x.held(0, 5, true);
        x.held(0, 6, false);
        x.held(2, 4, true);
        Edges.due("fits(0): 6, 5, 3", x.fits(0), 3);
        Edges.due("ask(0, 0): 5 shares all with itself, four with 6 and 3", x.ask(0, 0), 1);
        Edges.due("ask(1, 0)", x.ask(1, 0), 2);
        // not the last one itself
        x = Edges.told("9", "1/a/0 1/a/21", "");
        Edges.due("ask(0, 0) of two", x.ask(0, 0), 0);
        x.lose(0);
        Edges.due("ask(0, 0): gone, but told", x.ask(0, 0), 0);
    }

    private static void askNone() {
        Edges.sentence("ASK what 0: the other one, 1: how many are left at the most; NONE if none FITS, there is no other one, or for "
            + "another what.");
        TrunkLitters x = Edges.told(FOUR);
        Edges.never("ask(#, 0)", what -> x.ask(what, 0), -1, 2, 3);
        Edges.never("ask(#, 0)", what -> x.ask(what, 0), -1, Edges.FAR);
        x.held(0, 0, false);
        Edges.due("ask(0, 0): none FITS", x.ask(0, 0), -1);
        Edges.due("ask(1, 0): none FITS", x.ask(1, 0), -1);
        Edges.due("ask(0, -1): it did not count yet", x.ask(0, -1), 0);
        TrunkLitters one = Edges.told("9", "1/a/9", "");
        Edges.due("ask(0, 0) of one told", one.ask(0, 0), -1);
        Edges.due("ask(1, 0) of one told", one.ask(1, 0), -1);
        Edges.due("ask(0, 0) without", new TrunkLitters().ask(0, 0), -1);
        Edges.due("ask(1, 0) without", new TrunkLitters().ask(1, 0), -1);
    }

    private static void imageBoxes() {
        Edges.sentence("TRUNKS, tales, the year, the SEED are kept in a BOX 0 .. 2: the year; NONE if there is none such.");
        TrunkLitters x = Edges.told(FOUR);
        for (int year = 0; year < 4; year++) {
            for (int box = 0; box < 3; box++) {
                Edges.due("image(" + box + ")", x.image(box), year);
            }
            x.year();
        }
        Edges.due("image(3)", x.image(3), -1);
        Edges.never("image(#)", x::image, -1, Edges.FAR);
        Edges.due("about(6): no ACT", x.about(6), 4);
        for (int box : new int[] {3, -1, 32, Integer.MIN_VALUE, Integer.MAX_VALUE}) {
            Edges.nothing("image(" + box + ")", HeldEdgesTest::lived, o -> o.image(box), -1);
        }
        Edges.due("image(0) of an empty HOUSE", new TrunkLitters().image(0), 0);
    }

    private static void backBoxes() {
        Edges.sentence("All is as it was kept (no ACTS are kept then): the year; NONE, doing nothing, if nothing was.");
        TrunkLitters x = Edges.told(FOUR);
        for (int box = 0; box < 3; box++) {
            Edges.due("back(" + box + ") of nothing", x.back(box), -1);
        }
        x.image(1);
        Edges.due("back(0)", x.back(0), -1);
        Edges.due("back(2)", x.back(2), -1);
        Edges.due("back(1)", x.back(1), 0);
        Edges.due("back(1) again", x.back(1), 0);
        Edges.never("back(#)", x::back, -1, Edges.FAR);
        Edges.due("back(3)", x.back(3), -1);
        for (int box : new int[] {1, 2, 3, -1, 32, Integer.MIN_VALUE, Integer.MAX_VALUE}) {
            Edges.nothing("back(" + box + ")", HeldEdgesTest::lived, o -> o.back(box), -1);
        }
        // each BOX by itself, the later image in the stead of the earlier one
        x = Edges.told(FOUR);
        x.image(0);
        x.year();
        x.image(1);
        x.year();
        x.image(2);
        x.year();
        Edges.due("back(1)", x.back(1), 1);
        Edges.due("back(2)", x.back(2), 2);
        Edges.due("back(0)", x.back(0), 0);
        x.image(2);
        x.year();
        Edges.due("back(2): the later one", x.back(2), 0);
        Edges.due("back(1)", x.back(1), 1);
    }

    private static void backAll() {
        Edges.sentence("All is as it was kept (no ACTS are kept then)");
        TrunkLitters x = Edges.told("60 60", "8/a/42/9 9/a/21/9", "tales 5;draw 7;brood bulk;pines 9;");
        x.year();
        x.tell(2);
        x.carry(2, 1);
        x.image(0);
        int[][] kept = new int[3][7];
        for (int t = 0; t < 3; t++) {
            for (int what = 0; what < 7; what++) {
                kept[t][what] = x.trunk(t, what);
            }
        }
        x.year();
        x.lose(1);
        x.year();
        x.tell(0);
        x.undo();
        x.pack();
        x.held(0, 3, true);
        Texts.feed(x, "pines 4;");
        Edges.due("back(0)", x.back(0), 1);
        for (int t = 0; t < 3; t++) {
            Edges.trunk(x, t, kept[t]);
        }
        Edges.trunk(x, 3, -2);
        Edges.about(x, 3, 2, 7, 4, 1, 30, 0, 0, 1, 0, 8, 1, 8, 9, 2);
        Edges.due("undo(): no ACTS are kept", x.undo(), false);
        Edges.due("redo(): no ACTS are kept", x.redo(), false);
        // what is done behind it does not change what was kept
        for (int lost = 0; lost < 3; lost++) {
            x.lose(lost);
            Edges.due("back(0) behind lose(" + lost + ")", x.back(0), 1);
            Edges.due("about(2)", x.about(2), 7);
            for (int t = 0; t < 3; t++) {
                Edges.trunk(x, t, kept[t]);
            }
            Edges.due("litter(0)", x.litter(0), 4);
            Edges.due("litter(1)", x.litter(1), 4);
        }
        Edges.due("year(): on from there", x.year(), 8);
        Edges.due("undo()", x.undo(), true);
        Edges.due("about(2)", x.about(2), 7);
        Edges.due("undo(): none ahead of it", x.undo(), false);
        // a YEAR from an image is the same each time: the SEED is kept
        int[] seeds = new int[2];
        for (int i = 0; i < 2; i++) {
            x.back(0);
            x.year();
            seeds[i] = x.about(5) * 64 + x.trunk(3, 2);
        }
        Edges.due("about(5) and trunk(3, 2)", seeds[0], seeds[1]);
        // as many as 40 ACTS behind it, from anew
        x.back(0);
        for (int i = 0; i < 41; i++) {
            x.year();
        }
        Edges.due("about(6)", x.about(6), 40);
    }

    private static void about() {
        Edges.sentence("What 0: TRUNKS that there are, .. 14: TRUNKS told in the text. NONE for another what.");
        TrunkLitters x = Edges.told(FOUR + "brood (bulk + 2) * 3;");
        Edges.about(x, 4, 2, 15, 3, 0, 7, 0, 0, 0, 0, 0, 4, 0, 2, 4);
        Edges.never("about(#)", x::about, -1, 15, 16);
        for (int what : new int[] {Integer.MIN_VALUE, -1000, -256, -1, 15, 16, 31, 32, 256, 1000, Integer.MAX_VALUE}) {
            Edges.due("about(" + what + ")", x.about(what), -1);
        }
    }

    private static void aboutNumbers() {
        Edges.sentence("0: TRUNKS that there are, 2: places with TRUNKS, 14: TRUNKS told in the text");
        TrunkLitters x = Edges.told("60", "8/a/42/9 9/a/21/9 1/a/1/9", "tales 5;draw 7;brood bulk;pines 9;");
        x.year();
        x.lose(1);
        Edges.due("about(0)", x.about(0), 3);
        Edges.due("about(2)", x.about(2), 1 + 4 + 8);
        Edges.due("about(14)", x.about(14), 3);
        Edges.sentence("3: tales, 4: the year, 5: the SEED");
        x.tell(3);
        Edges.due("about(3)", x.about(3), 4);
        Edges.due("about(4)", x.about(4), 1);
        Edges.due("about(5)", x.about(5), 30);
        Edges.sentence("6: ACTS that can be undone, 7: redone");
        Edges.due("about(6)", x.about(6), 3);
        Edges.due("about(7)", x.about(7), 0);
        x.undo();
        x.undo();
        Edges.due("about(6)", x.about(6), 1);
        Edges.due("about(7)", x.about(7), 2);
        x.redo();
        Edges.due("about(6)", x.about(6), 2);
        Edges.due("about(7)", x.about(7), 1);
        Edges.sentence("8: what is HELD, 9: the TIME, 10: bytes on the TAPE, 12: numbers that lie there");
        x.held(0, 0, true);
        x.held(1, 0, true);
        Edges.due("about(8)", x.about(8), 2);
        x.later(8);
        Edges.due("about(9)", x.about(9), 8);
        x.feed(0, 0, 0, 0, 0);
        Edges.due("about(10)", x.about(10), 20);
        x.end(3);
        Edges.due("about(10)", x.about(10), 3);
        Edges.due("about(12)", x.about(12), 0);
        x.pack();
        Edges.due("about(12)", x.about(12), 8);
        x.rivals(0, 2);
        Edges.due("about(12)", x.about(12), 2);
        x.rivals(0, 0);
        Edges.due("about(12)", x.about(12), 0);
        Edges.sentence("1: ROOMS, 11: units, 13: pines");
        Edges.due("about(1)", x.about(1), 1);
        Edges.due("about(11)", x.about(11), 1);
        Edges.due("about(13)", x.about(13), 9);
        Edges.due("about(11) of none told", Edges.told("9", "", "").about(11), 0);
    }
}
